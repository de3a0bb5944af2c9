/-! MY OWN: the class takes a token as the abstract reader does -/
def HD (σ : Zm) (R : Nat) : List Cl → Nat → Nat → Prop
  | [], _, _ => True
  | c :: T, k, a => (zrd σ (R + 2) k = c.1 ∧ zrd σ (R + 3) k = (a : Int) ∧ zrd σ (R + 4) k = ((a + c.2.1.length : Nat) : Int) ∧ zrd σ (R + 5) k = ((a + c.2.1.length + c.2.2.length : Nat) : Int)) ∧ HD σ R T (k + 1) (a + c.2.1.length + c.2.2.length)
theorem HD_cg {σ σ' : Zm} {R : Nat} : ∀ (T : List Cl) (k a : Nat), (∀ q, R + 2 ≤ q → q ≤ R + 5 → ∀ j, j < k + T.length → zrd σ' q j = zrd σ q j) → HD σ R T k a → HD σ' R T k a
  | [], _, _, _, _ => trivial
  | c :: T, k, a, h, hh => by
    have h2 := fun q h1 h2 => h q h1 h2 k (by simp only [List.length_cons]; omega)
    refine ⟨?_, HD_cg T (k + 1) _ (fun q h1 h2 j hj => h q h1 h2 j (by simp only [List.length_cons]; omega)) hh.2⟩
    rw [h2 (R + 2) (by omega) (by omega), h2 (R + 3) (by omega) (by omega), h2 (R + 4) (by omega) (by omega), h2 (R + 5) (by omega) (by omega)]
    exact hh.1
theorem HD_ap {σ : Zm} {R : Nat} (so : Int) (c1 c : List Int) : ∀ (T : List Cl) (k a : Nat), HD σ R T k a → zrd σ (R + 2) (k + T.length) = so → zrd σ (R + 3) (k + T.length) = ((a + (flat T).length : Nat) : Int) → zrd σ (R + 4) (k + T.length) = ((a + (flat T).length + c1.length : Nat) : Int) → zrd σ (R + 5) (k + T.length) = ((a + (flat T).length + c1.length + c.length : Nat) : Int) → HD σ R (T ++ [(so, c1, c)]) k a
  | [], k, a, _, h2, h3, h4, h5 => ⟨⟨h2, h3, h4, h5⟩, trivial⟩
  | b :: T, k, a, hh, h2, h3, h4, h5 => by
    have e : (flat (b :: T)).length = b.2.1.length + (b.2.2.length + (flat T).length) := by
      show (b.2.1 ++ (b.2.2 ++ flat T)).length = _
      simp only [List.length_append]
    rw [e] at h3 h4 h5
    have ek : k + (b :: T).length = k + 1 + T.length := by simp only [List.length_cons]; omega
    rw [ek] at h2 h3 h4 h5
    exact ⟨hh.1, HD_ap so c1 c T (k + 1) _ hh.2 h2 (by rw [h3]; omega) (by rw [h4]; omega) (by rw [h5]; omega)⟩
def cD (R q : Nat) : Prop := q = 150 ∨ q = 152 ∨ (R ≤ q ∧ q ≤ R + 5)
def CA (f : Nat → Int) (L R : Nat) (σ0 : Zm) (n : Nat) (fa pl : Int) (σ : Zm) : Prop := tape f L σ ∧ zfo (cD R) σ0 σ ∧ zrd σ 150 5 = (n : Int) ∧ zrd σ 150 3 = fa ∧ zrd σ 150 4 = pl
def CH (R : Nat) (so : Int) (a b : Nat) (T : List Cl) (σ : Zm) : Prop := HD σ R T 0 0 ∧ zrd σ R 5 = (T.length : Int) ∧ zrd σ (R + 2) T.length = so ∧ zrd σ (R + 3) T.length = (a : Int) ∧ zrd σ (R + 4) T.length = ((a + b : Nat) : Int)
def CX (f : Nat → Int) (L R : Nat) (σ0 : Zm) (n : Nat) (so pr cm : Int) (W c1 c : List Int) (T : List Cl) (fa pl : Int) (σ : Zm) : Prop := CA f L R σ0 n fa pl σ ∧ CH R so (flat T).length c1.length T σ ∧ KCo σ R ((flat T ++ c1) ++ c) ∧ KWo σ W ∧ zrd σ 150 10 = so ∧ zrd σ 150 11 = pr ∧ zrd σ 150 12 = cm
def CZ (f : Nat → Int) (L R : Nat) (σ0 : Zm) (n : Nat) (T : List Cl) (fa pl : Int) (σ : Zm) : Prop := CA f L R σ0 n fa pl σ ∧ (HD σ R T 0 0 ∧ zrd σ R 5 = (T.length : Int)) ∧ KCo σ R (flat T)
/-- the class's memory holds the abstract reader's state -/
def CR (f : Nat → Int) (L R : Nat) (σ0 : Zm) : PS → Zm → Prop
  | (n, (du, so, pr, cm), W, c1, c, T, (fa, pl)), σ => zrd σ 150 9 = du ∧ if 1 ≤ du ∧ du ≤ 3 then CX f L R σ0 n so pr cm W c1 c T fa pl σ else CZ f L R σ0 n T fa pl σ
theorem CA_w {f : Nat → Int} {L R : Nat} {σ0 σ σ' : Zm} {n : Nat} {fa pl : Int} (hR : ru R) (h : CA f L R σ0 n fa pl σ) (hf : zfo (cD R) σ σ') (hk : ∀ k, 2 ≤ k → k ≤ 5 → zrd σ' 150 k = zrd σ 150 k) : CA f L R σ0 n fa pl σ' := by
  obtain ⟨⟨h1, h2, h3⟩, h4, h5, h6, h7⟩ := h
  refine ⟨⟨by rw [hk 2 (by omega) (by omega)]; exact h1, h2, fun j hj => ?_⟩, h4.tr hf, ?_, ?_, ?_⟩
  · rw [hf.rd (by unfold cD; have := hR.1; omega)]; exact h3 j hj
  · rw [hk 5 (by omega) (by omega)]; exact h5
  · rw [hk 3 (by omega) (by omega)]; exact h6
  · rw [hk 4 (by omega) (by omega)]; exact h7
theorem CH_w {R : Nat} {so : Int} {a b : Nat} {T : List Cl} {σ σ' : Zm} (h : CH R so a b T σ) (hq : ∀ q, R + 2 ≤ q → q ≤ R + 5 → ∀ k, zrd σ' q k = zrd σ q k) (h5 : zrd σ' R 5 = zrd σ R 5) : CH R so a b T σ' := by
  obtain ⟨h1, h2, h3, h4, h6⟩ := h
  exact ⟨HD_cg T 0 0 (fun q a b j _ => hq q a b j) h1, by rw [h5]; exact h2, by rw [hq _ (by omega) (by omega)]; exact h3, by rw [hq _ (by omega) (by omega)]; exact h4, by rw [hq _ (by omega) (by omega)]; exact h6⟩
theorem KCo_w {σ σ' : Zm} {R : Nat} {C : List Int} (h : KCo σ R C) (h6 : zrd σ' R 6 = zrd σ R 6) (hq : ∀ k, zrd σ' (R + 1) k = zrd σ (R + 1) k) : KCo σ' R C := ⟨by rw [h6]; exact h.1, sg_cg _ _ (fun k _ _ => (hq k).symm) h.2⟩
theorem KWo_w {σ σ' : Zm} {W : List Int} (h : KWo σ W) (hk : ∀ k, 13 ≤ k → k ≤ 15 → zrd σ' 150 k = zrd σ 150 k) (hq : ∀ k, zrd σ' 152 k = zrd σ 152 k) : KWo σ' W := ⟨by rw [hk 13 (by omega) (by omega)]; exact h.1, by rw [hk 14 (by omega) (by omega)]; exact h.2.1, by rw [hk 15 (by omega) (by omega)]; exact h.2.2.1, sk_cg _ (fun k _ => (hq k).symm) h.2.2.2⟩
/-- fields of the reader that no one reads here -/
theorem CX_s {f : Nat → Int} {L R : Nat} {σ0 σ σ' : Zm} {n : Nat} {so pr cm fa pl : Int} {W c1 c : List Int} {T : List Cl} (hR : ru R) (h : CX f L R σ0 n so pr cm W c1 c T fa pl σ) (hr : RS (fun k => k = 0 ∨ k = 1 ∨ (6 ≤ k ∧ k ≤ 9)) σ σ') : CX f L R σ0 n so pr cm W c1 c T fa pl σ' := by
  obtain ⟨h1, h2, h3, h4, h5, h6, h7⟩ := h
  have hk : ∀ k, (2 ≤ k ∧ k ≤ 5) ∨ 10 ≤ k → zrd σ' 150 k = zrd σ 150 k := fun k hk => hr.2 k (by omega)
  have ho : ∀ q, q ≠ 150 → ∀ k, zrd σ' q k = zrd σ q k := fun q hq k => hr.1.rd (oO_ne hq) k
  have r1 := hR.1
  exact ⟨CA_w hR h1 (hr.1.mono (fun q z => Or.inl z)) (fun k a b => hk k (Or.inl ⟨a, b⟩)), CH_w h2 (fun q a b k => ho q (by omega) k) (ho R (by omega) 5), KCo_w h3 (ho R (by omega) 6) (ho _ (by omega)), KWo_w h4 (fun k a b => hk k (by omega)) (ho 152 (by omega)), by rw [hk 10 (by omega)]; exact h5, by rw [hk 11 (by omega)]; exact h6, by rw [hk 12 (by omega)]; exact h7⟩
theorem CZ_s {f : Nat → Int} {L R : Nat} {σ0 σ σ' : Zm} {n : Nat} {fa pl : Int} {T : List Cl} (hR : ru R) (h : CZ f L R σ0 n T fa pl σ) (hr : RS (fun k => ¬ (2 ≤ k ∧ k ≤ 5)) σ σ') : CZ f L R σ0 n T fa pl σ' := by
  obtain ⟨h1, ⟨h2, h2'⟩, h3⟩ := h
  have ho : ∀ q, q ≠ 150 → ∀ k, zrd σ' q k = zrd σ q k := fun q hq k => hr.1.rd (oO_ne hq) k
  have r1 := hR.1
  exact ⟨CA_w hR h1 (hr.1.mono (fun q z => Or.inl z)) (fun k a b => hr.2 k (fun z => z ⟨a, b⟩)), ⟨HD_cg T 0 0 (fun q a b j _ => ho q (by omega) j) h2, by rw [ho R (by omega) 5]; exact h2'⟩, KCo_w h3 (ho R (by omega) 6) (ho _ (by omega))⟩
/-- a refusal -/
theorem CA_refuse {f : Nat → Int} {L R : Nat} {σ0 σ σ' : Zm} {n : Nat} {fa pl fb pm : Int} (hR : ru R) (h : CA f L R σ0 n fa pl σ) (hf : RS (fun k => k = 3 ∨ k = 4) σ σ') (h3 : zrd σ' 150 3 = fb) (h4 : zrd σ' 150 4 = pm) : CA f L R σ0 n fb pm σ' := by
  obtain ⟨⟨a1, a2, a3⟩, a4, a5, a6, a7⟩ := h
  exact ⟨⟨by rw [hf.2 2 (by omega)]; exact a1, a2, fun j hj => by rw [hf.1.rd (oO_ne (by omega))]; exact a3 j hj⟩, a4.tr (hf.1.mono (fun q z => Or.inl z)), by rw [hf.2 5 (by omega)]; exact a5, h3, h4⟩
theorem qR_refuse {f : Nat → Int} {L R : Nat} {σ0 σ : Zm} {n : Nat} {du so pr cm pl e s : Int} {W c1 c : List Int} {T : List Cl} (hR : ru R) (h : CR f L R σ0 (n, (du, so, pr, cm), W, c1, c, T, (0, pl)) σ) (h6 : zrd σ 150 6 = s) (he : zw e = e) : ∃ σ', fR_refuse σ e = some (0, σ') ∧ CR f L R σ0 (n, (du, so, pr, cm), W, c1, c, T, (e, s)) σ' := by
  have hz : zwp (fR_refuse σ e) (fun r σ' => r = 0 ∧ CR f L R σ0 (n, (du, so, pr, cm), W, c1, c, T, (e, s)) σ') := by
    unfold fR_refuse
    refine RS_st (S := fun k => k = 3 ∨ k = 4) (Or.inl rfl) (fun σ1 r1 e1 => ?_)
    rw [zwp_let, e1 6, if_neg (by decide), h6]
    refine RS_st (S := fun k => k = 3 ∨ k = 4) (Or.inr rfl) (fun σ2 r2 e2 => ?_)
    rw [zwp_some]
    have r12 := r1.tr r2
    have g3 : zrd σ2 150 3 = e := by rw [e2, if_neg (by decide), e1, if_pos rfl, he]
    have g4 : zrd σ2 150 4 = s := by rw [e2, if_pos rfl, ← h6, zw_rd]
    have ho : ∀ q, q ≠ 150 → ∀ k, zrd σ2 q k = zrd σ q k := fun q hq k => r12.1.rd (oO_ne hq) k
    have rr := hR.1
    obtain ⟨c9, hc⟩ := h
    refine ⟨rfl, by rw [r12.2 9 (by omega)]; exact c9, ?_⟩
    by_cases cd : 1 ≤ du ∧ du ≤ 3
    · rw [if_pos cd] at hc ⊢
      obtain ⟨h1, h2, h3, h4, h5, h6, h7⟩ := hc
      exact ⟨CA_refuse hR h1 r12 g3 g4, CH_w h2 (fun q a b k => ho q (by omega) k) (ho R (by omega) 5), KCo_w h3 (ho R (by omega) 6) (ho _ (by omega)), KWo_w h4 (fun k a b => r12.2 k (by omega)) (ho 152 (by omega)), by rw [r12.2 10 (by omega)]; exact h5, by rw [r12.2 11 (by omega)]; exact h6, by rw [r12.2 12 (by omega)]; exact h7⟩
    · rw [if_neg cd] at hc ⊢
      obtain ⟨h1, ⟨h2, h2'⟩, h3⟩ := hc
      exact ⟨CA_refuse hR h1 r12 g3 g4, ⟨HD_cg T 0 0 (fun q a b j _ => ho q (by omega) j) h2, by rw [ho R (by omega) 5]; exact h2'⟩, KCo_w h3 (ho R (by omega) 6) (ho _ (by omega))⟩
  obtain ⟨r, σ', h1, h2, h3⟩ := hz
  exact ⟨σ', by rw [h1, h2], h3⟩
/-- setting what is due, an open clause -/
theorem CX_du {f : Nat → Int} {L R : Nat} {σ0 σ : Zm} {n : Nat} {so pr cm fa pl d : Int} {W c1 c : List Int} {T : List Cl} {F : Zm → Zr} {P : Int → Zm → Prop} (hR : ru R) (h : CX f L R σ0 n so pr cm W c1 c T fa pl σ) (hd : 1 ≤ d ∧ d ≤ 3) (hF : ∀ σ', CR f L R σ0 (n, (d, so, pr, cm), W, c1, c, T, (fa, pl)) σ' → zwp (F σ') P) : zwp (zlet (zst σ 150 9 d) F) P := by
  refine RS_st (S := fun k => k = 9) rfl (fun σ1 r1 e1 => hF σ1 ⟨by rw [e1, if_pos rfl, zwj (by omega) (by omega)], ?_⟩)
  rw [if_pos hd]
  exact CX_s hR h (r1.mono (fun q z => by omega))
theorem CX_emit {f : Nat → Int} {L R : Nat} {σ0 σ : Zm} {n : Nat} {so pr cm fa pl x : Int} {W c1 c : List Int} {T : List Cl} (hR : ru R) (h : CX f L R σ0 n so pr cm W c1 c T fa pl σ) (hl : (flat T).length + c1.length + c.length < 300) (hx : 0 ≤ x ∧ x < 3000) : ∃ σ', fU_emit σ R x = some (0, σ') ∧ CX f L R σ0 n so pr cm W c1 (c ++ [x]) T fa pl σ' := by
  obtain ⟨h1, h2, h3, h4, h5, h6, h7⟩ := h
  obtain ⟨σ1, g1, g2, g3, g4⟩ := qU_emit hR (x := x) σ h3 (by simp only [List.length_append]; omega) hx
  have r1 := hR.1
  have ho : ∀ q, q ≠ R → q ≠ R + 1 → ∀ k, zrd σ1 q k = zrd σ q k := fun q a b k => g2.rd (by unfold eR; omega) k
  exact ⟨σ1, g1, CA_w hR h1 (g2.mono (fun q z => by unfold eR at z; unfold cD; omega)) (fun k _ _ => ho 150 (by omega) (by omega) k), CH_w h2 (fun q a b k => ho q (by omega) (by omega) k) (g4 5 (by omega)), by rw [← List.append_assoc]; exact g3, KWo_w h4 (fun k _ _ => ho 150 (by omega) (by omega) k) (ho 152 (by omega) (by omega)), by rw [ho 150 (by omega) (by omega)]; exact h5, by rw [ho 150 (by omega) (by omega)]; exact h6, by rw [ho 150 (by omega) (by omega)]; exact h7⟩
theorem CX_rel {f : Nat → Int} {L R : Nat} {σ0 σ : Zm} {n : Nat} {so pr cm fa pl l : Int} {W c1 c : List Int} {T : List Cl} (hR : ru R) (h : CX f L R σ0 n so pr cm W c1 c T fa pl σ) (hl : 1 ≤ l) (hW : inW W) (hb : (flat T).length + c1.length + c.length + W.length ≤ 300) : zwp (fR_release σ R l) (fun _ σ' => CX f L R σ0 n so pr cm (rel l W c).1 c1 (rel l W c).2 T fa pl σ' ∧ ∀ k, 6 ≤ k → k ≤ 9 → zrd σ' 150 k = zrd σ 150 k) := by
  obtain ⟨h1, h2, h3, h4, h5, h6, h7⟩ := h
  refine zwp_mono (qR_release hR l hl (flat T ++ c1) W c σ hW (by simp only [List.length_append]; omega) h3 h4) (fun _ σ1 ⟨g1, g2, g3⟩ => ?_)
  obtain ⟨w1, w2, w3⟩ := g1
  have r1 := hR.1
  have ho : ∀ q, q ≠ R → q ≠ R + 1 → q ≠ 150 → ∀ k, zrd σ1 q k = zrd σ q k := fun q a b c k => w1.rd (by unfold wR; omega) k
  exact ⟨⟨CA_w hR h1 (w1.mono (fun q z => by unfold wR at z; unfold cD; omega)) (fun k _ _ => w2 k (by omega) (by omega)), CH_w h2 (fun q a b k => ho q (by omega) (by omega) (by omega) k) (w3 5 (by omega)), g2, g3, by rw [w2 10 (by omega) (by omega)]; exact h5, by rw [w2 11 (by omega) (by omega)]; exact h6, by rw [w2 12 (by omega) (by omega)]; exact h7⟩, fun k _ _ => w2 k (by omega) (by omega)⟩
/-- an operator without a depth of its own -/
theorem CX_hold {f : Nat → Int} {L R : Nat} {σ0 σ : Zm} {n : Nat} {so pr cm fa pl x : Int} {W c1 c : List Int} {T : List Cl} (hR : ru R) (h : CX f L R σ0 n so pr cm W c1 c T fa pl σ) (hx : (0 < x ∧ x < 3) ∨ (4 ≤ x ∧ x < 14)) (hb : W.length < 300) : ∃ σ', fR_hold σ x = some (0, σ') ∧ CX f L R σ0 n so pr cm (x :: W) c1 c T fa pl σ' := by
  obtain ⟨h1, h2, h3, h4, h5, h6, h7⟩ := h
  obtain ⟨σ1, g1, g2, g3, g4, g5⟩ := qR_hold (x := x) σ (by omega) hb h4.1 h4.2.2.2
  have r1 := hR.1
  have ho : ∀ q, q ≠ 150 → q ≠ 152 → ∀ k, zrd σ1 q k = zrd σ q k := fun q a b k => g2.rd (by unfold hR0; omega) k
  have ep : par (x :: W) = par W := by show (if x = 0 then _ else _) = _; rw [if_neg (by omega)]
  have ea : aro (x :: W) = aro W := by show (if x = 0 ∨ x = 3 ∨ x = 14 then _ else _) = _; rw [if_neg (by omega)]
  exact ⟨σ1, g1, CA_w hR h1 (g2.mono (fun q z => by unfold hR0 at z; unfold cD; omega)) (fun k _ _ => g3 k (by omega)), CH_w h2 (fun q a b k => ho q (by omega) (by omega) k) (ho R (by omega) (by omega) 5), KCo_w h3 (ho R (by omega) (by omega) 6) (ho _ (by omega) (by omega)), ⟨g4, by rw [ep, g3 14 (by decide)]; exact h4.2.1, by rw [ea, g3 15 (by decide)]; exact h4.2.2.1, g5⟩, by rw [g3 10 (by decide)]; exact h5, by rw [g3 11 (by decide)]; exact h6, by rw [g3 12 (by decide)]; exact h7⟩
theorem aro_le : ∀ V : List Int, aro V ≤ V.length
  | [] => Nat.le_refl _
  | b :: V => by
    have := aro_le V
    show (if b = 0 ∨ b = 3 ∨ b = 14 then aro V + 1 else aro V) ≤ V.length + 1
    split <;> omega
theorem par_le : ∀ V : List Int, par V ≤ aro V
  | [] => Nat.le_refl _
  | b :: V => by
    have := par_le V
    show (if b = 0 then par V + 1 else par V) ≤ (if b = 0 ∨ b = 3 ∨ b = 14 then aro V + 1 else aro V)
    by_cases h : b = 0
    · rw [if_pos h, if_pos (Or.inl h)]; omega
    · rw [if_neg h]
      split <;> omega
/-- a deeper level -/
theorem qR_nest {f : Nat → Int} {L R : Nat} {σ0 σ : Zm} {n : Nat} {du so pr cm pl x d s : Int} {W c1 c : List Int} {T : List Cl} (hR : ru R) (h : CR f L R σ0 (n, (du, so, pr, cm), W, c1, c, T, (0, pl)) σ) (h6 : zrd σ 150 6 = s) (hdu : 1 ≤ du ∧ du ≤ 3) (hx : x = 0 ∨ x = 3 ∨ x = 14) (hd : 1 ≤ d ∧ d ≤ 3) (hb : W.length < 300) : zwp (fR_nest σ x d) (fun _ σ' => CR f L R σ0 (nest s n x d du so pr cm W c1 c T pl) σ') := by
  have hc := h.2
  rw [if_pos hdu] at hc
  have hk4 := hc.2.2.2.1
  have hal := aro_le W
  have hpl := par_le W
  unfold fR_nest nest
  simp only [zwp_let]
  rw [hk4.2.2.1]
  by_cases c1' : aro W < 8
  · rw [if_pos (by omega), if_pos c1', zwp_let]
    refine RS_st (S := fun k => k = 15) rfl (fun σ1 r1 e1 => ?_)
    obtain ⟨h1, h2, h3, h4, h5, h7, h8⟩ := hc
    have rr := hR.1
    have ho : ∀ q, q ≠ 150 → ∀ k, zrd σ1 q k = zrd σ q k := fun q hq k => r1.1.rd (oO_ne hq) k
    have fin : ∀ σ2, RS (fun k => k = 14 ∨ k = 15) σ σ2 → zrd σ2 150 14 = (par (x :: W) : Int) → zrd σ2 150 15 = (aro (x :: W) : Int) → zwp (zbv (fR_hold σ2 x) fun σ4 => zlet (zst σ4 150 9 d) fun σ5 => some (0, σ5)) (fun _ σ' => CR f L R σ0 (n, (d, so, pr, cm), x :: W, c1, c, T, (0, pl)) σ') := by
      intro σ2 r2 e14 e15
      have ho2 : ∀ q, q ≠ 150 → ∀ k, zrd σ2 q k = zrd σ q k := fun q hq k => r2.1.rd (oO_ne hq) k
      have hk : ∀ k, k < 14 → zrd σ2 150 k = zrd σ 150 k := fun k hk => r2.2 k (by omega)
      obtain ⟨σ3, g1, g2, g3, g4, g5⟩ := qR_hold (x := x) (W := W) σ2 (by omega) hb (by rw [hk 13 (by omega)]; exact h4.1) (sk_cg _ (fun k _ => (ho2 152 (by omega) k).symm) h4.2.2.2)
      have ho3 : ∀ q, q ≠ 150 → q ≠ 152 → ∀ k, zrd σ3 q k = zrd σ q k := fun q a b k => by rw [g2.rd (by unfold hR0; omega) k, ho2 q a k]
      have hk3 : ∀ k, k < 13 → zrd σ3 150 k = zrd σ 150 k := fun k hk' => by rw [g3 k (by omega), hk k (by omega)]
      rw [zbv_eq g1]
      have hf3 : zfo (cD R) σ σ3 := (r2.1.mono (D' := cD R) (fun q z => Or.inl z)).tr (g2.mono (fun q z => by unfold hR0 at z; unfold cD; omega))
      refine CX_du hR (so := so) (pr := pr) (cm := cm) (W := x :: W) (c1 := c1) (c := c) (T := T) (fa := 0) (pl := pl) (n := n) (f := f) (L := L) (σ0 := σ0) ⟨CA_w hR h1 hf3 (fun k a b => hk3 k (by omega)), CH_w h2 (fun q a b k => ho3 q (by omega) (by omega) k) (ho3 R (by omega) (by omega) 5), KCo_w h3 (ho3 R (by omega) (by omega) 6) (ho3 _ (by omega) (by omega)), ⟨g4, by rw [g3 14 (by decide)]; exact e14, by rw [g3 15 (by decide)]; exact e15, g5⟩, by rw [hk3 10 (by decide)]; exact h5, by rw [hk3 11 (by decide)]; exact h7, by rw [hk3 12 (by decide)]; exact h8⟩ hd (fun σ4 h4 => ?_)
      rw [zwp_some]; exact h4
    have ea : (aro (x :: W) : Int) = (aro W : Int) + 1 := by
      show ((if x = 0 ∨ x = 3 ∨ x = 14 then aro W + 1 else aro W : Nat) : Int) = _
      rw [if_pos (by omega)]; omega
    have e15 : zrd σ1 150 15 = (aro (x :: W) : Int) := by rw [e1, if_pos rfl, ea, zwj (by omega) (by omega)]
    by_cases c2 : x = 0
    · rw [ifnn c2, zwp_let, e1 14, if_neg (by decide), h4.2.1]
      refine RS_st (S := fun k => k = 14) rfl (fun σ2 r2 e2 => ?_)
      have ep : (par (x :: W) : Int) = (par W : Int) + 1 := by
        show ((if x = 0 then par W + 1 else par W : Nat) : Int) = _
        rw [if_pos c2]; omega
      refine fin σ2 ((r1.mono (fun q z => Or.inr z)).tr (r2.mono (fun q z => Or.inl z))) ?_ ?_
      · rw [e2, if_pos rfl, ep, zwj (by omega) (by omega)]
      · rw [e2, if_neg (by decide)]; exact e15
    · rw [if_pos c2]
      have ep : par (x :: W) = par W := by show (if x = 0 then _ else _) = _; rw [if_neg c2]
      refine fin σ1 (r1.mono (fun q z => Or.inr z)) ?_ e15
      rw [ep, e1, if_neg (by decide)]; exact h4.2.1
  · rw [if_neg (by omega), if_neg c1']
    obtain ⟨σ1, g1, g2⟩ := qR_refuse (e := 3) hR h h6 (by rfl)
    rw [zbv_eq g1, zwp_some]
    exact g2
theorem CX_CR {f : Nat → Int} {L R : Nat} {σ0 σ : Zm} {n : Nat} {du so pr cm pl fa : Int} {W c1 c : List Int} {T : List Cl} (h : CR f L R σ0 (n, (du, so, pr, cm), W, c1, c, T, (fa, pl)) σ) (hdu : 1 ≤ du ∧ du ≤ 3) : CX f L R σ0 n so pr cm W c1 c T fa pl σ := by
  have hc := h.2
  rw [if_pos hdu] at hc
  exact hc
theorem qR_takeOperand {f : Nat → Int} {L R : Nat} {σ0 σ : Zm} {n : Nat} {so pr cm pl x : Int} {W c1 c : List Int} {T : List Cl} (hR : ru R) (h : CX f L R σ0 n so pr cm W c1 c T 0 pl σ) (hl : (flat T).length + c1.length + c.length < 300) (hx : 0 ≤ x ∧ x < 3000) : zwp (fR_takeOperand σ R x) (fun _ σ' => CR f L R σ0 (n, (3, so, pr, cm), W, c1, c ++ [x], T, (0, pl)) σ') := by
  unfold fR_takeOperand
  obtain ⟨σ1, g1, g2⟩ := CX_emit hR h hl hx
  rw [zbv_eq g1]
  refine CX_du hR g2 (by omega) (fun σ2 h2 => ?_)
  rw [zwp_some]; exact h2
theorem qR_isName {so v : Int} {σ : Zm} (h10 : zrd σ 150 10 = so) (h8 : zrd σ 150 8 = v) : fR_isNameOfSort σ = some (if nks so v = true then 1 else 0, σ) := by
  unfold fR_isNameOfSort nks
  simp only [zlet]
  rw [h10, h8]
  have w : ∀ a b : Int, (zbi (fX_within σ v a b) fun v5 σ4 => some (zb v5, σ4)) = some (if decide (a ≤ v ∧ v ≤ b) = true then 1 else 0, σ) := by
    intro a b
    by_cases c : a ≤ v ∧ v ≤ b
    · rw [pwithin_t c, if_pos (by simp [c])]; rfl
    · rw [pwithin_f c, if_neg (by simp [c])]; rfl
  by_cases c1 : so = 0
  · rw [if_pos c1, if_pos c1]; exact w 0 8
  · rw [if_neg c1, if_neg c1]
    by_cases c2 : so = 1
    · rw [if_pos c2, if_pos c2]; exact w 8 12
    · rw [if_neg c2, if_neg c2]; exact w 13 20
theorem nks_bd {so v : Int} (h : nks so v = true) : 0 ≤ v ∧ v ≤ 20 := by
  unfold nks at h
  split at h
  · simp at h; omega
  · split at h <;> simp at h <;> omega
theorem qR_takeOne {f : Nat → Int} {L R : Nat} {σ0 σ : Zm} {n : Nat} {du so pr cm pl k v s : Int} {W c1 c : List Int} {T : List Cl} (hR : ru R) (h : CR f L R σ0 (n, (du, so, pr, cm), W, c1, c, T, (0, pl)) σ) (hdu : du = 1 ∨ du = 2) (h6 : zrd σ 150 6 = s) (h7 : zrd σ 150 7 = k) (h8 : 18 ≤ k → k ≤ 20 → zrd σ 150 8 = v) (hv : k = 20 → 0 ≤ v) (hb : k ≠ 21 → (flat T).length + c1.length + c.length + W.length < 300) : zwp (fR_takeOne σ R) (fun _ σ' => CR f L R σ0 (tOne k v s n du so pr cm W c1 c T pl) σ') := by
  have hX := CX_CR h (by omega)
  have no : ∀ e, zw e = e → zwp (zbv (fR_refuse σ e) fun σ9 => some (0, σ9)) (fun _ σ' => CR f L R σ0 (n, (du, so, pr, cm), W, c1, c, T, (e, s)) σ') := by
    intro e he
    obtain ⟨σ1, g1, g2⟩ := qR_refuse (e := e) hR h h6 he
    rw [zbv_eq g1, zwp_some]
    exact g2
  have nst : ∀ x d, (x = 0 ∨ x = 3 ∨ x = 14) → 1 ≤ d ∧ d ≤ 3 → k ≠ 21 → zwp (zbv (fR_nest σ x d) fun σ4 => some (0, σ4)) (fun _ σ' => CR f L R σ0 (nest s n x d du so pr cm W c1 c T pl) σ') := by
    intro x d hx hd hk
    rw [zwp_bv]
    refine zwp_mono (qR_nest hR h h6 (by omega) hx hd (by have := hb hk; omega)) (fun _ σ1 h1 => ?_)
    rw [zwp_some]; exact h1
  unfold fR_takeOne tOne
  simp only [zwp_let]
  rw [h7, h.1]
  by_cases k0 : k = 0
  · rw [if_pos k0, if_pos k0, zwp_let, if_pos (show ¬ k = 11 by omega)]
    exact nst 0 2 (by omega) (by omega) (by omega)
  · rw [if_neg k0, if_neg k0]
    by_cases k3 : k = 3
    · rw [if_pos k3, if_neg (show ¬ k = 11 by omega)]
      by_cases d1 : du = 1
      · rw [zwp_let, if_pos d1, if_pos ⟨k3, d1⟩]
        exact nst 3 1 (by omega) (by omega) (by omega)
      · rw [zwp_let, if_neg d1, if_neg (fun z => d1 z.2), if_neg (show ¬ k = 19 by omega), if_neg (show ¬ k = 20 by omega)]
        exact no 1 rfl
    · rw [if_neg k3]
      by_cases k11 : k = 11
      · rw [if_pos k11, if_pos k11, zwp_let, ifnn k11]
        exact nst 14 2 (by omega) (by omega) (by omega)
      · rw [if_neg k11, if_neg k11, if_neg (show ¬ (k = 3 ∧ du = 1) from fun z => k3 z.1)]
        by_cases k19 : k = 19
        · have h8' := h8 (by omega) (by omega)
          rw [if_pos k19, if_pos k19, zbi_eq (qR_isName hX.2.2.2.2.1 h8'), zw_b2]
          by_cases c1' : nks so v = true
          · have hn := nks_bd c1'
            rw [if_pos c1', if_pos c1', if_pos (by decide), zwp_let, h8', show zw (1000 + v) = 1000 + v from zwj (by omega) (by omega), zwp_bv]
            refine zwp_mono (qR_takeOperand hR hX (by have := hb (by omega); omega) (by omega)) (fun _ σ1 h1 => ?_)
            rw [zwp_some]; exact h1
          · rw [if_neg c1', if_neg c1', if_neg (by decide)]
            exact no 4 rfl
        · rw [if_neg k19, if_neg k19]
          by_cases k20 : k = 20
          · have h8' := h8 (by omega) (by omega)
            have hv0 := hv k20
            rw [if_pos k20, if_pos k20, zwp_let, h8']
            by_cases c1' : v ≤ 999
            · rw [if_pos c1', if_pos c1', zwp_let, zwp_bv]
              refine zwp_mono (qR_takeOperand hR hX (by have := hb (by omega); omega) (by omega)) (fun _ σ1 h1 => ?_)
              rw [zwp_some]; exact h1
            · rw [if_neg c1', if_neg c1']
              exact no 2 rfl
          · rw [if_neg k20, if_neg k20]
            exact no 1 rfl
/-- a clause is opened -/
theorem qR_takeSort {f : Nat → Int} {L R : Nat} {σ0 σ : Zm} {n : Nat} {so pr cm pl k v s : Int} {W : List Int} {T : List Cl} (hR : ru R) (h : CR f L R σ0 (n, (0, so, pr, cm), W, [], [], T, (0, pl)) σ) (h6 : zrd σ 150 6 = s) (h7 : zrd σ 150 7 = k) (h8 : 18 ≤ k → k ≤ 20 → zrd σ 150 8 = v) (hv : k = 18 → 0 ≤ v ∧ v ≤ 3) (hT : (flat T).length ≤ 300) : zwp (fR_takeSort σ R) (fun _ σ' => CR f L R σ0 (tSort k v s n 0 so pr cm W [] [] T pl) σ') := by
  have hZ : CZ f L R σ0 n T 0 pl σ := by
    have hc := h.2
    rw [if_neg (by omega)] at hc
    exact hc
  have no : ∀ e, zw e = e → zwp (zbv (fR_refuse σ e) fun σ9 => some (0, σ9)) (fun _ σ' => CR f L R σ0 (n, (0, so, pr, cm), W, [], [], T, (e, s)) σ') := by
    intro e he
    obtain ⟨σ1, g1, g2⟩ := qR_refuse (e := e) hR h h6 he
    rw [zbv_eq g1, zwp_some]
    exact g2
  have rr := hR.1
  unfold fR_takeSort tSort
  simp only [zwp_let]
  rw [h7, hZ.2.1.2]
  by_cases k21 : k = 21
  · rw [ifnn k21, if_pos k21]
    refine RS_st (S := fun k => k = 9) rfl (fun σ1 r1 e1 => ?_)
    rw [zwp_some]
    refine ⟨by rw [e1, if_pos rfl]; rfl, ?_⟩
    rw [if_neg (by omega)]
    exact CZ_s hR hZ (r1.mono (fun q z => by omega))
  · rw [if_pos k21, if_neg k21, zwp_let]
    by_cases k18 : k = 18
    · have hv' := hv k18
      have h8' := h8 (by omega) (by omega)
      rw [if_pos k18, if_pos k18, zwp_let]
      by_cases hTl : T.length < 10
      · rw [if_pos (by omega), if_pos hTl, zwp_let, h8']
        refine RS_st (S := fun k => k = 10) rfl (fun σ1 r1 e1 => ?_)
        have g10 : zrd σ1 150 10 = v := by rw [e1, if_pos rfl, zwj (by omega) (by omega)]
        have fin : ∀ (σ1 : Zm) (b : Int), RS (fun k => 10 ≤ k) σ σ1 → zrd σ1 150 10 = v → zrd σ1 150 11 = b → (b = 0 ∨ b = 1) → zwp (fR_takeSort_83 R σ1) (fun _ σ' => CR f L R σ0 (n, (if b = 0 then 1 else 2, v, b, 0), [], [], [], T, (0, pl)) σ') := by
          intro σ1 b r1 g10 g11 hb
          unfold fR_takeSort_83
          refine RS_st (S := fun k => 10 ≤ k) (by decide) (fun σ2 r2 e2 => ?_)
          refine RS_st (S := fun k => 10 ≤ k) (by decide) (fun σ3 r3 e3 => ?_)
          refine RS_st (S := fun k => 10 ≤ k) (by decide) (fun σ4 r4 e4 => ?_)
          refine RS_st (S := fun k => 10 ≤ k) (by decide) (fun σ5 r5 e5 => ?_)
          have r5' := ((((r1.tr r2).tr r3).tr r4).tr r5)
          have j10 : zrd σ5 150 10 = v := by rw [e5, if_neg (by decide), e4, if_neg (by decide), e3, if_neg (by decide), e2, if_neg (by decide), g10]
          have j11 : zrd σ5 150 11 = b := by rw [e5, if_neg (by decide), e4, if_neg (by decide), e3, if_neg (by decide), e2, if_neg (by decide), g11]
          have j12 : zrd σ5 150 12 = 0 := by rw [e5, if_neg (by decide), e4, if_neg (by decide), e3, if_neg (by decide), e2, if_pos rfl]; rfl
          have j13 : zrd σ5 150 13 = 0 := by rw [e5, if_neg (by decide), e4, if_neg (by decide), e3, if_pos rfl]; rfl
          have j14 : zrd σ5 150 14 = 0 := by rw [e5, if_neg (by decide), e4, if_pos rfl]; rfl
          have j15 : zrd σ5 150 15 = 0 := by rw [e5, if_pos rfl]; rfl
          have ho : ∀ q, q ≠ 150 → ∀ k, zrd σ5 q k = zrd σ q k := fun q hq k => r5'.1.rd (oO_ne hq) k
          obtain ⟨z1, ⟨z2, z2'⟩, z3⟩ := CZ_s hR hZ (r5'.mono (fun q z => by omega))
          rw [zwp_let, j10]
          unfold fU_open
          rw [zwp_bv, zwp_let, z2', if_neg (by omega), zwp_let, zckj (by omega) (by omega), Int.toNat_natCast]
          refine zwp_st (fun σ6 f6 e6 => ?_)
          simp only [zwp_let]
          rw [f6.rd (oO_ne (by omega)), f6.rd (oO_ne (by omega)), z2', z3.1, zckj (by omega) (by omega), Int.toNat_natCast]
          refine zwp_st (fun σ7 f7 e7 => ?_)
          simp only [zwp_let]
          rw [f7.rd (oO_ne (by omega)), f7.rd (oO_ne (by omega)), f6.rd (oO_ne (by omega)), f6.rd (oO_ne (by omega)), z2', z3.1, zckj (by omega) (by omega), Int.toNat_natCast]
          refine zwp_st (fun σ8 f8 e8 => ?_)
          rw [zwp_some]
          have ho8 : ∀ q, q ≠ R + 2 → q ≠ R + 3 → q ≠ R + 4 → ∀ k, zrd σ8 q k = zrd σ5 q k := fun q a b c k => by rw [f8.rd (oO_ne c), f7.rd (oO_ne b), f6.rd (oO_ne a)]
          have hf8 : zfo (cD R) σ5 σ8 := ((f6.mono (D' := cD R) (fun q z => by unfold oO at z; unfold cD; omega)).tr (f7.mono (fun q z => by unfold oO at z; unfold cD; omega))).tr (f8.mono (fun q z => by unfold oO at z; unfold cD; omega))
          have z2a : zrd σ8 (R + 2) T.length = v := by rw [f8.rd (oO_ne (by omega)), f7.rd (oO_ne (by omega)), e6, if_pos rfl, zwj (by omega) (by omega)]
          have z3a : zrd σ8 (R + 3) T.length = ((flat T).length : Int) := by rw [f8.rd (oO_ne (by omega)), e7, if_pos rfl, zwj (by omega) (by omega)]
          have z4a : zrd σ8 (R + 4) T.length = (((flat T).length + ([] : List Int).length : Nat) : Int) := by rw [e8, if_pos rfl, zwj (by omega) (by omega)]; rfl
          have hHD : HD σ8 R T 0 0 := by
            refine HD_cg T 0 0 (fun q a b j hj => ?_) z2
            have a8 : zrd σ8 q j = zrd σ7 q j := by
              by_cases z : q = R + 4
              · rw [z, e8, if_neg (by omega)]
              · exact f8.rd (oO_ne z) j
            have a7 : zrd σ7 q j = zrd σ6 q j := by
              by_cases z : q = R + 3
              · rw [z, e7, if_neg (by omega)]
              · exact f7.rd (oO_ne z) j
            have a6 : zrd σ6 q j = zrd σ5 q j := by
              by_cases z : q = R + 2
              · rw [z, e6, if_neg (by omega)]
              · exact f6.rd (oO_ne z) j
            rw [a8, a7, a6]
          have hX : CX f L R σ0 n v b 0 [] [] [] T 0 pl σ8 := ⟨CA_w hR z1 hf8 (fun k _ _ => ho8 150 (by omega) (by omega) (by omega) k), ⟨hHD, by rw [ho8 R (by omega) (by omega) (by omega)]; exact z2', z2a, z3a, z4a⟩, by rw [List.append_nil, List.append_nil]; exact KCo_w z3 (ho8 R (by omega) (by omega) (by omega) 6) (ho8 _ (by omega) (by omega) (by omega)), ⟨by rw [ho8 150 (by omega) (by omega) (by omega), j13]; rfl, by rw [ho8 150 (by omega) (by omega) (by omega), j14]; rfl, by rw [ho8 150 (by omega) (by omega) (by omega), j15]; rfl, trivial⟩, by rw [ho8 150 (by omega) (by omega) (by omega), j10], by rw [ho8 150 (by omega) (by omega) (by omega), j11], by rw [ho8 150 (by omega) (by omega) (by omega), j12]⟩
          rw [hX.2.2.2.2.2.1]
          rcases hb with hb | hb
          · rw [if_pos hb, if_pos hb]
            exact CX_du hR hX (by omega) (fun σ9 h9 => by rw [zwp_some]; exact h9)
          · rw [if_neg (by omega), if_neg (by omega)]
            exact CX_du hR hX (by omega) (fun σ9 h9 => by rw [zwp_some]; exact h9)
        have r1' : RS (fun k => 10 ≤ k) σ σ1 := r1.mono (fun q z => by omega)
        rw [zwp_let, g10]
        by_cases v0 : v = 0
        · rw [if_pos v0, if_pos (Or.inl v0), if_pos (Or.inl v0)]
          refine RS_st (S := fun k => 10 ≤ k) (by decide) (fun σ2 r2 e2 => ?_)
          exact fin σ2 1 (r1'.tr r2) (by rw [e2, if_neg (by decide), g10]) (by rw [e2, if_pos rfl]; rfl) (Or.inr rfl)
        · rw [if_neg v0, zwp_let]
          by_cases v1 : v = 1
          · rw [ifnn v1, if_pos (Or.inr v1), if_pos (Or.inr v1)]
            refine RS_st (S := fun k => 10 ≤ k) (by decide) (fun σ2 r2 e2 => ?_)
            exact fin σ2 1 (r1'.tr r2) (by rw [e2, if_neg (by decide), g10]) (by rw [e2, if_pos rfl]; rfl) (Or.inr rfl)
          · rw [if_pos v1, if_neg (show ¬ (v = 0 ∨ v = 1) by omega), if_neg (show ¬ (v = 0 ∨ v = 1) by omega)]
            refine RS_st (S := fun k => 10 ≤ k) (by decide) (fun σ2 r2 e2 => ?_)
            exact fin σ2 0 (r1'.tr r2) (by rw [e2, if_neg (by decide), g10]) (by rw [e2, if_pos rfl]; rfl) (Or.inl rfl)
      · rw [if_neg (by omega), if_neg hTl]
        exact no 5 rfl
    · rw [if_neg k18, if_neg k18]
      exact no 1 rfl
/-- a parenthesis is shut -/
theorem qR_shut {f : Nat → Int} {L R : Nat} {σ0 σ : Zm} {n : Nat} {so pr cm pl : Int} {W c1 c : List Int} {T : List Cl} (hR : ru R) (h : CR f L R σ0 (n, (3, so, pr, cm), W, c1, c, T, (0, pl)) σ) (hW : inW W) (hp : par W ≠ 0) (hb : (flat T).length + c1.length + c.length + W.length ≤ 300) : zwp (fR_shutParenthesis σ R) (fun _ σ' => CR f L R σ0 (n, (3, so, pr, cm), (rel 1 W c).1.tail, c1, (rel 1 W c).2, T, (0, pl)) σ') := by
  have hX := CX_CR h (by omega)
  obtain ⟨W', hW'⟩ := rel_shut W c hW hp
  have hlen := rel_len 1 W c
  have rr := hR.1
  unfold fR_shutParenthesis
  rw [zwp_bv]
  refine zwp_mono (CX_rel hR hX (by omega) hW hb) (fun _ σ1 ⟨g1, g2⟩ => ?_)
  rw [hW'] at g1 hlen ⊢
  simp only [List.length_cons] at hlen
  show zwp _ (fun _ σ' => CR f L R σ0 (n, (3, so, pr, cm), W', c1, (rel 1 W c).2, T, (0, pl)) σ')
  generalize hc' : (rel 1 W c).2 = c' at *
  obtain ⟨h1, h2, h3, ⟨w1, w2, w3, w4⟩, h5, h7, h8⟩ := g1
  have ep : (par (0 :: W') : Int) = (par W' : Int) + 1 := by
    show ((if (0 : Int) = 0 then par W' + 1 else par W' : Nat) : Int) = _
    rw [if_pos rfl]; omega
  have ea : (aro (0 :: W') : Int) = (aro W' : Int) + 1 := by
    show ((if (0 : Int) = 0 ∨ (0 : Int) = 3 ∨ (0 : Int) = 14 then aro W' + 1 else aro W' : Nat) : Int) = _
    rw [if_pos (Or.inl rfl)]; omega
  have hal := aro_le W'
  have hpl := par_le W'
  have el : ((0 :: W').length : Int) = (W'.length : Int) + 1 := by simp
  rw [zwp_let, zwp_let, w1, el, zwj (a := (W'.length : Int) + 1 - 1) (by omega) (by omega), show max 0 ((W'.length : Int) + 1 - 1) = (W'.length : Int) by omega]
  refine RS_st (S := fun k => 13 ≤ k) (by decide) (fun σ2 r2 e2 => ?_)
  rw [zwp_let, e2 14, if_neg (by decide), w2, ep]
  refine RS_st (S := fun k => 13 ≤ k) (by decide) (fun σ3 r3 e3 => ?_)
  rw [zwp_let, e3 15, if_neg (by decide), e2 15, if_neg (by decide), w3, ea]
  refine RS_st (S := fun k => 13 ≤ k) (by decide) (fun σ4 r4 e4 => ?_)
  rw [zwp_some]
  have r := (r2.tr r3).tr r4
  have ho : ∀ q, q ≠ 150 → ∀ k, zrd σ4 q k = zrd σ1 q k := fun q hq k => r.1.rd (oO_ne hq) k
  have hk : ∀ k, k < 13 → zrd σ4 150 k = zrd σ1 150 k := fun k hk => r.2 k (by omega)
  have h9 : zrd σ4 150 9 = 3 := by rw [hk 9 (by omega), g2 9 (by omega) (by omega)]; exact h.1
  refine ⟨h9, ?_⟩
  rw [if_pos (by omega)]
  refine ⟨CA_w hR h1 (r.1.mono (fun q z => Or.inl z)) (fun k a b => hk k (by omega)), CH_w h2 (fun q a b k => ho q (by omega) k) (ho R (by omega) 5), KCo_w h3 (ho R (by omega) 6) (ho _ (by omega)), ⟨?_, ?_, ?_, sk_cg _ (fun k _ => (ho 152 (by omega) k).symm) w4.2⟩, by rw [hk 10 (by omega)]; exact h5, by rw [hk 11 (by omega)]; exact h7, by rw [hk 12 (by omega)]; exact h8⟩
  · rw [e4, if_neg (by decide), e3, if_neg (by decide), e2, if_pos rfl, zwj (by omega) (by omega)]
  · rw [e4, if_neg (by decide), e3, if_pos rfl, zwj (by omega) (by omega)]; omega
  · rw [e4, if_pos rfl, zwj (by omega) (by omega)]; omega
theorem CX_12 {f : Nat → Int} {L R : Nat} {σ0 σ : Zm} {n : Nat} {so pr cm fa pl x : Int} {W c1 c : List Int} {T : List Cl} {F : Zm → Zr} {P : Int → Zm → Prop} (hR : ru R) (h : CX f L R σ0 n so pr cm W c1 c T fa pl σ) (hx : zw x = x) (hF : ∀ σ', CX f L R σ0 n so pr x W c1 c T fa pl σ' → zwp (F σ') P) : zwp (zlet (zst σ 150 12 x) F) P := by
  refine RS_st (S := fun k => k = 12) rfl (fun σ1 r e1 => hF σ1 ?_)
  obtain ⟨h1, h2, h3, h4, h5, h6, h7⟩ := h
  have ho : ∀ q, q ≠ 150 → ∀ k, zrd σ1 q k = zrd σ q k := fun q hq k => r.1.rd (oO_ne hq) k
  have rr := hR.1
  exact ⟨CA_w hR h1 (r.1.mono (fun q z => Or.inl z)) (fun k a b => r.2 k (by omega)), CH_w h2 (fun q a b k => ho q (by omega) k) (ho R (by omega) 5), KCo_w h3 (ho R (by omega) 6) (ho _ (by omega)), KWo_w h4 (fun k a b => r.2 k (by omega)) (ho 152 (by omega)), by rw [r.2 10 (by omega)]; exact h5, by rw [r.2 11 (by omega)]; exact h6, by rw [e1, if_pos rfl, hx]⟩
theorem qR_takeBehind {f : Nat → Int} {L R : Nat} {σ0 σ : Zm} {n : Nat} {so pr cm pl k s : Int} {W c1 c : List Int} {T : List Cl} (hR : ru R) (h : CR f L R σ0 (n, (3, so, pr, cm), W, c1, c, T, (0, pl)) σ) (h6 : zrd σ 150 6 = s) (h7 : zrd σ 150 7 = k) (hW : inW W) (hb0 : (flat T).length + c1.length + c.length + W.length ≤ 300) (hb : k ≠ 21 → (flat T).length + c1.length + c.length + W.length < 300) (hT : T.length < 10) (hc1 : pr ≠ 0 → c1 = []) (hpr : 0 ≤ pr ∧ pr ≤ 1) (hcm : 0 ≤ cm ∧ cm ≤ 1) : zwp (fR_takeBehind σ R) (fun _ σ' => CR f L R σ0 (tBeh k s n 3 so pr cm W c1 c T pl) σ') := by
  have hX := CX_CR h (by omega)
  have rr := hR.1
  obtain ⟨x1, x2, x3, x4, x5, x6, x7⟩ := id hX
  have no : ∀ e, zw e = e → zwp (zbv (fR_refuse σ e) fun σ9 => some (0, σ9)) (fun _ σ' => CR f L R σ0 (n, (3, so, pr, cm), W, c1, c, T, (e, s)) σ') := by
    intro e he
    obtain ⟨σ1, g1, g2⟩ := qR_refuse (e := e) hR h h6 he
    rw [zbv_eq g1, zwp_some]
    exact g2
  -- release, hold, set what is due
  have ari : ∀ (l : Int), 1 ≤ l → 10 ≤ k ∧ k ≤ 13 → zwp (zbv (fR_release σ R l) fun σ39 => zlet (zrd σ39 150 7) fun v40 => zbv (fR_hold σ39 v40) fun σ41 => zlet (zst σ41 150 9 2) fun σ42 => some (0, σ42)) (fun _ σ' => CR f L R σ0 (n, (2, so, pr, cm), k :: (rel l W c).1, c1, (rel l W c).2, T, (0, pl)) σ') := by
    intro l hl hk
    have hlen := rel_len l W c
    have hbb := hb (by omega)
    rw [zwp_bv]
    refine zwp_mono (CX_rel hR hX hl hW hb0) (fun _ σ1 ⟨g1, g2⟩ => ?_)
    rw [zwp_let, g2 7 (by omega) (by omega), h7]
    obtain ⟨σ2, q1, q2⟩ := CX_hold hR g1 (x := k) (by omega) (by omega)
    rw [zbv_eq q1]
    exact CX_du hR q2 (by omega) (fun σ3 h3 => by rw [zwp_some]; exact h3)
  -- the last cases
  have c268 : ∀ x3 : Int, (x3 = 0 ↔ ¬ (par W = 0 ∧ pr = 0 ∧ cm ≠ 0)) → zwp (fR_takeBehind_268 R x3 σ) (fun _ σ' => CR f L R σ0 (if k = 16 ∧ par W = 0 ∧ pr = 0 ∧ cm ≠ 0 then (n, (0, so, pr, cm), (rel 1 W c).1, [], [], T ++ [(so, c1, (rel 1 W c).2)], (0, pl)) else (n, (3, so, pr, cm), W, c1, c, T, (1, s))) σ') := by
    intro x3 hx3
    unfold fR_takeBehind_268
    rw [zwp_let, h7]
    by_cases k16 : k = 16
    · rw [ifnn k16]
      by_cases hx : x3 = 0
      · have := hx3.1 hx
        rw [if_pos hx, if_neg (fun z => this z.2)]
        exact no 1 rfl
      · have hcc : par W = 0 ∧ pr = 0 ∧ cm ≠ 0 := by
          by_cases z : par W = 0 ∧ pr = 0 ∧ cm ≠ 0
          · exact z
          · exact absurd (hx3.2 z) hx
        rw [if_neg hx, if_pos ⟨k16, hcc⟩, zwp_bv]
        have hlen := rel_len 1 W c
        refine zwp_mono (CX_rel hR hX (by omega) hW hb0) (fun _ σ1 ⟨g1, g2⟩ => ?_)
        generalize (rel 1 W c).2 = c' at *
        generalize (rel 1 W c).1 = W' at *
        obtain ⟨y1, ⟨y2, y2', y2a, y2b, y2c⟩, y3, y4, y5, y6, y7⟩ := g1
        unfold fU_close
        rw [zwp_bv, zwp_let, y2', if_neg (by omega), zwp_let, zwp_let, y3.1, zckj (by omega) (by omega), Int.toNat_natCast]
        have hL3 : ((flat T ++ c1) ++ c').length = (flat T).length + c1.length + c'.length := by simp only [List.length_append]
        rw [hL3]
        refine zwp_st (fun σ2 f2 e2 => ?_)
        rw [zwp_let, f2.rd (oO_ne (by omega)), y2']
        refine zwp_st (fun σ3 f3 e3 => ?_)
        rw [zwp_some]
        refine RS_st (S := fun k => k = 9) rfl (fun σ4 r4 e4 => ?_)
        rw [zwp_some]
        have hf3 : zfo (cD R) σ1 σ3 := (f2.mono (D' := cD R) (fun q z => by unfold oO at z; unfold cD; omega)).tr (f3.mono (fun q z => by unfold oO at z; unfold cD; omega))
        have ho3 : ∀ q, q ≠ R → q ≠ R + 5 → ∀ j, zrd σ3 q j = zrd σ1 q j := fun q a b j => by rw [f3.rd (oO_ne a), f2.rd (oO_ne b)]
        have hf4 : zfo (cD R) σ1 σ4 := hf3.tr (r4.1.mono (fun q z => Or.inl z))
        have ho4 : ∀ q, q ≠ R → q ≠ R + 5 → q ≠ 150 → ∀ j, zrd σ4 q j = zrd σ1 q j := fun q a b d j => by rw [r4.1.rd (oO_ne d), ho3 q a b]
        have hHD : HD σ4 R T 0 0 := by
          refine HD_cg T 0 0 (fun q a b j hj => ?_) y2
          by_cases z : q = R + 5
          · rw [r4.1.rd (oO_ne (by omega)), f3.rd (oO_ne (by omega)), z, e2, if_neg (by omega)]
          · exact ho4 q (by omega) z (by omega) j
        have efl : flat (T ++ [(so, c1, c')]) = (flat T ++ c1) ++ c' := by
          rw [flat_ap]
          show flat T ++ (c1 ++ (c' ++ [])) = _
          rw [List.append_nil, List.append_assoc]
        refine ⟨by rw [e4, if_pos rfl]; rfl, ?_⟩
        rw [if_neg (by omega)]
        refine ⟨CA_w hR y1 hf4 (fun j a b => by rw [e4, if_neg (by omega), ho3 150 (by omega) (by omega)]), ⟨HD_ap so c1 c' T 0 0 hHD ?_ ?_ ?_ ?_, ?_⟩, ?_⟩
        · rw [ho4 _ (by omega) (by omega) (by omega), Nat.zero_add]; exact y2a
        · rw [ho4 _ (by omega) (by omega) (by omega), Nat.zero_add, Nat.zero_add]; exact y2b
        · rw [ho4 _ (by omega) (by omega) (by omega), Nat.zero_add, Nat.zero_add]; exact y2c
        · rw [r4.1.rd (oO_ne (by omega)), f3.rd (oO_ne (by omega)), e2, if_pos (by omega), Nat.zero_add, zwj (by omega) (by omega)]
        · rw [r4.1.rd (oO_ne (by omega)), e3, if_pos rfl, zwj (by omega) (by omega)]; simp
        · rw [efl]
          exact KCo_w y3 (by rw [r4.1.rd (oO_ne (by omega)), e3, if_neg (by decide), f2.rd (oO_ne (by omega))]) (ho4 _ (by omega) (by omega) (by omega))
    · rw [if_pos k16, if_neg (fun z => k16 z.1)]
      exact no 1 rfl
  have c225 : ∀ x2 x3 : Int, (x2 = 0 ↔ ¬ par W = 0) → (x3 = 0 ↔ ¬ (par W = 0 ∧ pr = 0 ∧ cm ≠ 0)) → zwp (fR_takeBehind_225 R x2 x3 σ) (fun _ σ' => CR f L R σ0 (if k = 17 ∧ par W = 0 ∧ pr ≠ 0 then (n, (1, so, 0, cm), (rel 1 W c).1, (rel 1 W c).2, [], T, (0, pl)) else if k = 16 ∧ par W = 0 ∧ pr = 0 ∧ cm ≠ 0 then (n, (0, so, pr, cm), (rel 1 W c).1, [], [], T ++ [(so, c1, (rel 1 W c).2)], (0, pl)) else (n, (3, so, pr, cm), W, c1, c, T, (1, s))) σ') := by
    intro x2 x3 hx2 hx3
    unfold fR_takeBehind_225
    rw [zwp_let, h7]
    by_cases hcc : k = 17 ∧ par W = 0 ∧ pr ≠ 0
    · obtain ⟨k17, hp, hpr0⟩ := id hcc
      rw [if_pos hcc, ifnn k17, if_neg (fun z => hx2.1 z hp), zwp_let, x6, if_neg hpr0, zwp_bv]
      have hlen := rel_len 1 W c
      have hc10 := hc1 hpr0
      subst hc10
      refine zwp_mono (CX_rel hR hX (by omega) hW hb0) (fun _ σ1 ⟨g1, g2⟩ => ?_)
      generalize (rel 1 W c).2 = c' at *
      generalize (rel 1 W c).1 = W' at *
      obtain ⟨y1, ⟨y2, y2', y2a, y2b, y2c⟩, y3, y4, y5, y6, y7⟩ := g1
      unfold fU_beginCondition
      rw [zwp_bv, zwp_let, y2', if_neg (by omega), zwp_let, zwp_let, y3.1, zckj (by omega) (by omega), Int.toNat_natCast]
      have hL3 : ((flat T ++ []) ++ c').length = (flat T).length + c'.length := by simp only [List.length_append, List.length_nil]; omega
      simp only [List.length_nil] at hb0 hlen
      rw [hL3]
      refine zwp_st (fun σ2 f2 e2 => ?_)
      rw [zwp_some]
      refine RS_st (S := fun k => k = 11) rfl (fun σ3 r3 e3 => ?_)
      have ho2 : ∀ q, q ≠ R + 4 → ∀ j, zrd σ2 q j = zrd σ1 q j := fun q a j => f2.rd (oO_ne a) j
      have ho3 : ∀ q, q ≠ R + 4 → q ≠ 150 → ∀ j, zrd σ3 q j = zrd σ1 q j := fun q a b j => by rw [r3.1.rd (oO_ne b), ho2 q a]
      have hf3 : zfo (cD R) σ1 σ3 := (f2.mono (D' := cD R) (fun q z => by unfold oO at z; unfold cD; omega)).tr (r3.1.mono (fun q z => Or.inl z))
      have hk3 : ∀ j, j ≠ 11 → zrd σ3 150 j = zrd σ1 150 j := fun j hj => by rw [e3, if_neg hj, ho2 150 (by omega)]
      have hHD : HD σ3 R T 0 0 := by
        refine HD_cg T 0 0 (fun q a b j hj => ?_) y2
        by_cases z : q = R + 4
        · rw [r3.1.rd (oO_ne (by omega)), z, e2, if_neg (by omega)]
        · exact ho3 q z (by omega) j
      refine CX_du (so := so) (pr := 0) (cm := cm) (W := W') (c1 := c') (c := []) (T := T) (fa := 0) (pl := pl) (n := n) (f := f) (L := L) (σ0 := σ0) hR ⟨CA_w hR y1 hf3 (fun j a b => hk3 j (by omega)), ⟨hHD, by rw [ho3 R (by omega) (by omega)]; exact y2', by rw [ho3 _ (by omega) (by omega)]; exact y2a, by rw [ho3 _ (by omega) (by omega)]; exact y2b, ?_⟩, ?_, KWo_w y4 (fun j a b => hk3 j (by omega)) (ho3 152 (by omega) (by omega)), by rw [hk3 10 (by omega)]; exact y5, by rw [e3, if_pos rfl]; rfl, by rw [hk3 12 (by omega)]; exact y7⟩ (by omega) (fun σ4 h4 => by rw [zwp_some]; exact h4)
      · rw [r3.1.rd (oO_ne (by omega)), e2, if_pos rfl, zwj (by omega) (by omega)]
      · rw [List.append_nil] at y3 ⊢
        exact KCo_w y3 (ho3 R (by omega) (by omega) 6) (ho3 _ (by omega) (by omega))
    · rw [if_neg hcc]
      by_cases k17 : k = 17
      · rw [ifnn k17]
        by_cases z2 : x2 = 0
        · rw [if_pos z2]; exact c268 x3 hx3
        · have hp : par W = 0 := by
            by_cases z : par W = 0
            · exact z
            · exact absurd (hx2.2 z) z2
          have hpr0 : pr = 0 := by
            by_cases z : pr = 0
            · exact z
            · exact absurd ⟨k17, hp, z⟩ hcc
          rw [if_neg z2, zwp_let, x6, if_pos hpr0]
          exact c268 x3 hx3
      · rw [if_pos k17]; exact c268 x3 hx3
  have c166 : ∀ x2 x3 : Int, (x2 = 0 ↔ ¬ par W = 0) → (x3 = 0 ↔ ¬ (par W = 0 ∧ pr = 0 ∧ cm ≠ 0)) → zwp (fR_takeBehind_166 R x2 x3 σ) (fun _ σ' => CR f L R σ0 (if (k = 1 ∨ k = 2) ∧ par W = 0 ∧ pr = 0 ∧ cm ≠ 0 then (n, (1, so, pr, 0), k :: (rel k W c).1, c1, (rel k W c).2, T, (0, pl)) else if k = 17 ∧ par W = 0 ∧ pr ≠ 0 then (n, (1, so, 0, cm), (rel 1 W c).1, (rel 1 W c).2, [], T, (0, pl)) else if k = 16 ∧ par W = 0 ∧ pr = 0 ∧ cm ≠ 0 then (n, (0, so, pr, cm), (rel 1 W c).1, [], [], T ++ [(so, c1, (rel 1 W c).2)], (0, pl)) else (n, (3, so, pr, cm), W, c1, c, T, (1, s))) σ') := by
    intro x2 x3 hx2 hx3
    have c182 : (k = 1 ∨ k = 2) → zwp (fR_takeBehind_182 R x2 x3 σ) (fun _ σ' => CR f L R σ0 (if (k = 1 ∨ k = 2) ∧ par W = 0 ∧ pr = 0 ∧ cm ≠ 0 then (n, (1, so, pr, 0), k :: (rel k W c).1, c1, (rel k W c).2, T, (0, pl)) else if k = 17 ∧ par W = 0 ∧ pr ≠ 0 then (n, (1, so, 0, cm), (rel 1 W c).1, (rel 1 W c).2, [], T, (0, pl)) else if k = 16 ∧ par W = 0 ∧ pr = 0 ∧ cm ≠ 0 then (n, (0, so, pr, cm), (rel 1 W c).1, [], [], T ++ [(so, c1, (rel 1 W c).2)], (0, pl)) else (n, (3, so, pr, cm), W, c1, c, T, (1, s))) σ') := by
      intro hk
      unfold fR_takeBehind_182
      by_cases hx : x3 = 0
      · have := hx3.1 hx
        rw [if_pos hx, if_neg (fun z => this z.2)]
        exact c225 x2 x3 hx2 hx3
      · have hcc : par W = 0 ∧ pr = 0 ∧ cm ≠ 0 := by
          by_cases z : par W = 0 ∧ pr = 0 ∧ cm ≠ 0
          · exact z
          · exact absurd (hx3.2 z) hx
        rw [if_neg hx, if_pos ⟨hk, hcc⟩, zwp_let, h7]
        have hlen := rel_len k W c
        have hbb := hb (by omega)
        have go : zwp (zbv (fR_release σ R k) fun σ23 => fR_takeBehind_204 σ23) (fun _ σ' => CR f L R σ0 (n, (1, so, pr, 0), k :: (rel k W c).1, c1, (rel k W c).2, T, (0, pl)) σ') := by
          rw [zwp_bv]
          refine zwp_mono (CX_rel hR hX (by omega) hW hb0) (fun _ σ1 ⟨g1, g2⟩ => ?_)
          unfold fR_takeBehind_204
          rw [zwp_let, g2 7 (by omega) (by omega), h7]
          obtain ⟨σ2, q1, q2⟩ := CX_hold hR g1 (x := k) (by omega) (by omega)
          rw [zbv_eq q1]
          refine CX_12 hR q2 rfl (fun σ3 h3 => ?_)
          exact CX_du hR h3 (by omega) (fun σ4 h4 => by rw [zwp_some]; exact h4)
        rcases hk with hk | hk
        · rw [ifnn hk]
          rw [hk] at go ⊢
          exact go
        · rw [if_pos (by omega)]
          rw [hk] at go ⊢
          exact go
    unfold fR_takeBehind_166
    rw [zwp_let, h7]
    by_cases k1 : k = 1
    · rw [if_pos k1]; exact c182 (Or.inl k1)
    · rw [if_neg k1, zwp_let]
      by_cases k2 : k = 2
      · rw [ifnn k2]; exact c182 (Or.inr k2)
      · rw [if_pos k2, if_neg (show ¬ ((k = 1 ∨ k = 2) ∧ par W = 0 ∧ pr = 0 ∧ cm ≠ 0) from fun z => by omega)]
        exact c225 x2 x3 hx2 hx3
  have c108 : ∀ x2 x3 : Int, (x2 = 0 ↔ ¬ par W = 0) → (x3 = 0 ↔ ¬ (par W = 0 ∧ pr = 0 ∧ cm ≠ 0)) → ¬ (k = 15 ∧ par W ≠ 0) → ¬ (10 ≤ k ∧ k ≤ 13) → zwp (fR_takeBehind_108 R x2 x3 σ) (fun _ σ' => CR f L R σ0 (tBeh k s n 3 so pr cm W c1 c T pl) σ') := by
    intro x2 x3 hx2 hx3 hn1 hn2
    unfold fR_takeBehind_108 tBeh
    rw [if_neg hn2, if_neg hn1, zwp_let, h7]
    by_cases hcc : (4 ≤ k ∧ k ≤ 9) ∧ par W = 0 ∧ pr = 0 ∧ cm = 0
    · obtain ⟨hk, hp, hpr0, hcm0⟩ := id hcc
      rw [if_pos hcc, pwithin_t hk, if_neg (by decide), if_neg (fun z => hx2.1 z hp), zwp_let, x6, ifnn hpr0, zwp_let, x7, ifnn hcm0, zwp_bv]
      have hlen := rel_len 5 W c
      have hbb := hb (by omega)
      refine zwp_mono (CX_rel hR hX (by omega) hW hb0) (fun _ σ1 ⟨g1, g2⟩ => ?_)
      rw [zwp_let, g2 7 (by omega) (by omega), h7]
      obtain ⟨σ2, q1, q2⟩ := CX_hold hR g1 (x := k) (by omega) (by omega)
      rw [zbv_eq q1]
      refine CX_12 hR q2 rfl (fun σ3 h3 => ?_)
      exact CX_du hR h3 (by omega) (fun σ4 h4 => by rw [zwp_some]; exact h4)
    · rw [if_neg hcc]
      by_cases hk : 4 ≤ k ∧ k ≤ 9
      · rw [pwithin_t hk, if_neg (by decide)]
        by_cases z2 : x2 = 0
        · rw [if_pos z2]; exact c166 x2 x3 hx2 hx3
        · have hp : par W = 0 := by
            by_cases z : par W = 0
            · exact z
            · exact absurd (hx2.2 z) z2
          rw [if_neg z2, zwp_let, x6]
          by_cases hpr0 : pr = 0
          · rw [ifnn hpr0, zwp_let, x7, if_pos (fun z => hcc ⟨hk, hp, hpr0, z⟩)]
            exact c166 x2 x3 hx2 hx3
          · rw [if_pos hpr0]
            exact c166 x2 x3 hx2 hx3
      · rw [pwithin_f hk, if_pos rfl]
        exact c166 x2 x3 hx2 hx3
  have c37 : ∀ x2 x3 : Int, (x2 = 0 ↔ ¬ par W = 0) → (x3 = 0 ↔ ¬ (par W = 0 ∧ pr = 0 ∧ cm ≠ 0)) → zwp (fR_takeBehind_37 R x2 x3 σ) (fun _ σ' => CR f L R σ0 (tBeh k s n 3 so pr cm W c1 c T pl) σ') := by
    intro x2 x3 hx2 hx3
    unfold fR_takeBehind_37
    rw [zwp_let, h7]
    by_cases hk : 10 ≤ k ∧ k ≤ 13
    · rw [pwithin_t hk, if_neg (by decide), zwp_let, h7]
      unfold tBeh
      rw [if_pos hk]
      by_cases h11 : 11 < k
      · rw [if_pos h11, if_pos h11]; exact ari 6 (by omega) hk
      · rw [if_neg h11, if_neg h11]; exact ari 5 (by omega) hk
    · rw [pwithin_f hk, if_pos rfl, zwp_let, h7]
      by_cases k15 : k = 15
      · rw [ifnn k15]
        by_cases z2 : x2 = 0
        · have hp := hx2.1 z2
          rw [ifnn z2, zwp_bv]
          unfold tBeh
          rw [if_neg hk, if_pos ⟨k15, hp⟩]
          exact zwp_mono (qR_shut hR h hW hp hb0) (fun _ σ1 h1 => by rw [zwp_some]; exact h1)
        · rw [if_pos z2]
          exact c108 x2 x3 hx2 hx3 (fun z => z2 (hx2.2 z.2)) hk
      · rw [if_pos k15]
        exact c108 x2 x3 hx2 hx3 (fun z => k15 z.1) hk
  unfold fR_takeBehind
  rw [zwp_let, x4.2.1]
  by_cases hp : par W = 0
  · rw [ifnn (by omega)]
    unfold fR_takeBehind_13
    rw [if_neg (by decide), zwp_let, x6]
    have hx2 : (1 : Int) = 0 ↔ ¬ par W = 0 := ⟨fun z => absurd z (by decide), fun z => absurd hp z⟩
    by_cases hpr0 : pr = 0
    · rw [ifnn hpr0, zwp_let, x7]
      by_cases hcm0 : cm = 0
      · rw [if_pos hcm0]
        exact c37 1 0 hx2 ⟨fun _ z => z.2.2 hcm0, fun _ => rfl⟩
      · rw [if_neg hcm0]
        exact c37 1 1 hx2 ⟨fun z => absurd z (by decide), fun z => absurd ⟨hp, hpr0, hcm0⟩ z⟩
    · rw [if_pos hpr0]
      exact c37 1 0 hx2 ⟨fun _ z => hpr0 z.2.1, fun _ => rfl⟩
  · rw [if_pos (by omega)]
    unfold fR_takeBehind_13
    rw [if_pos rfl]
    exact c37 0 0 ⟨fun _ => hp, fun _ => rfl⟩ ⟨fun _ z => hp z.1, fun _ => rfl⟩

/-! MY OWN: made -/
def TB (T : List Cl) (W : Nat → Ln) (vv e : Nat) (bar last : Int) (n : Nat) (D : Nat → Nat → Nat → Prop) (σ : Zm) : Prop := ∀ j be ah, j < n → tv last j be ah → D j be ah → zrd σ 290 (225 * j + 15 * be + ah) = VL T W vv e bar last n j be ah
def d3 (j be ah j' be' ah' : Nat) : Prop := j < j' ∨ (j' = j ∧ (be' < be ∨ (be' = be ∧ ah' < ah)))
theorem pM_made_131 {x : Nat} {T : List Cl} {bar : Int} {W : Nat → Ln} {vv e n : Nat} {last : Int} (hT : T.length ≤ 10) (hs : KS W vv e n last) {j be : Nat} (hj : j < n) (hbe : be < 15) (which : Int) (σ0 : Zm) (P : Int → Zm → Prop) (K : Int → Int → Int → Int → Int → Int → Int → Int → Zm → Zr) (hK : ∀ σ', zg oMb σ0 σ' → KM x T bar W vv e σ' → TB T W vv e bar last n (d3 j be 15) σ' → zwp (K (x : Int) (vv : Int) (n : Int) which (e : Int) last (j : Int) (be : Int) σ') P) : ∀ (d m ah : Nat) (σ : Zm), d < m → ah + d = 15 → zg oMb σ0 σ → KM x T bar W vv e σ → TB T W vv e bar last n (d3 j be ah) σ → zwp (fM_made_131 m (x : Int) (vv : Int) (n : Int) which (e : Int) last (j : Int) (be : Int) (ah : Int) σ K) P
  | 0, m + 1, ah, σ, _, ha, h1, h2, h3 => by
    have : ah = 15 := by omega
    subst this
    rw [fM_made_131]
    simp only [zwp_let]
    rw [if_pos (by decide)]
    exact hK σ h1 h2 h3
  | d + 1, m + 1, ah, σ, hm, ha, h1, h2, h3 => by
    have hs' := hs
    obtain ⟨s1, s2, s3, s4, s5, s6, s7, s8⟩ := hs
    have ih := fun σ1 => pM_made_131 (x := x) (bar := bar) hT hs' hj hbe which σ0 P K hK d m (ah + 1) σ1 (by omega) (by omega)
    have ez : zw ((ah : Int) + 1) = ((ah + 1 : Nat) : Int) := by rw [zwj (by omega) (by omega)]; omega
    have no : ¬ tv last j be ah → zwp (fM_made_201 (fun (x1 : Int) (x3 : Int) (x4 : Int) (x5 : Int) (x6 : Int) (x7 : Int) (x8 : Int) (x9 : Int) (x10 : Int) (σ : Zm) => fM_made_131 m x1 x3 x4 x5 x6 x7 x8 x9 x10 σ K) K (x : Int) (vv : Int) (n : Int) which (e : Int) last (j : Int) (be : Int) (ah : Int) σ) P := by
      intro hn
      unfold fM_made_201 fM_made_204
      rw [if_pos rfl, ez]
      refine ih σ h1 h2 (fun j' be' ah' hj' htv hd => h3 j' be' ah' hj' htv ?_)
      unfold d3 at hd ⊢
      by_cases q : j' = j ∧ be' = be ∧ ah' = ah
      · obtain ⟨q1, q2, q3⟩ := q
        subst q1; subst q2; subst q3
        exact absurd htv hn
      · omega
    have yes : tv last j be ah → zwp (fM_made_197 (fun (x1 : Int) (x3 : Int) (x4 : Int) (x5 : Int) (x6 : Int) (x7 : Int) (x8 : Int) (x9 : Int) (x10 : Int) (σ : Zm) => fM_made_131 m x1 x3 x4 x5 x6 x7 x8 x9 x10 σ K) K (x : Int) (vv : Int) (n : Int) which (e : Int) last (j : Int) (be : Int) (ah : Int) σ) P := by
      intro hv
      unfold fM_made_197 fM_made_204
      rw [if_neg (by decide), zwp_bi]
      refine zwp_mono (qM_bestAt hT hs' hj hv σ h2 (fun y q1 q2 => h3 (j + 1) ah y q1 q2 (Or.inl (by omega)))) (fun r σ1 ⟨g1, k1, v1, _⟩ => ?_)
      rw [ez]
      refine ih σ1 (h1.tr g1) k1 (fun j' be' ah' hj' htv hd => ?_)
      rw [v1]
      by_cases q : 225 * j' + 15 * be' + ah' = 225 * j + 15 * be + ah
      · have q2 := htv.1
        have r1 : j' = j := by omega
        have r2 : be' = be := by omega
        have r3 : ah' = ah := by omega
        subst r1; subst r2; subst r3
        rw [if_pos rfl]
      · rw [if_neg q]
        refine h3 j' be' ah' hj' htv ?_
        unfold d3 at hd ⊢
        by_cases r : j' = j ∧ be' = be ∧ ah' = ah
        · obtain ⟨q1, q2, q3⟩ := r
          subst q1; subst q2; subst q3
          exact absurd rfl q
        · omega
    rw [fM_made_131]
    simp only [zwp_let]
    rw [if_neg (by omega), show zw (last + (be : Int) - 7) = last - 7 + (be : Int) by rw [zwj (by omega) (by omega)]; omega, show zw (last + (ah : Int) - 7) = last - 7 + (ah : Int) by rw [zwj (by omega) (by omega)]; omega]
    by_cases c1 : 0 ≤ last - 7 + (be : Int) ∧ last - 7 + (be : Int) ≤ 60
    · rw [mIn_t c1, if_neg (by decide)]
      by_cases c2 : 0 ≤ last - 7 + (ah : Int) ∧ last - 7 + (ah : Int) ≤ 60
      · rw [mIn_t c2, if_neg (by decide)]
        have p184 : (j = 0 → ah = 7) → zwp (fM_made_184 (fun (x1 : Int) (x3 : Int) (x4 : Int) (x5 : Int) (x6 : Int) (x7 : Int) (x8 : Int) (x9 : Int) (x10 : Int) (σ : Zm) => fM_made_131 m x1 x3 x4 x5 x6 x7 x8 x9 x10 σ K) K (x : Int) (vv : Int) (n : Int) which (e : Int) last (j : Int) (be : Int) (ah : Int) σ) P := by
          intro h7
          unfold fM_made_184
          by_cases c3 : 1 < j
          · rw [if_pos (by omega)]
            exact yes ⟨⟨hbe, by omega⟩, c1, c2, h7, fun q => by omega⟩
          · rw [if_neg (by omega)]
            by_cases c4 : be = 7
            · rw [ifnn (show (be : Int) = 7 by omega)]
              exact yes ⟨⟨hbe, by omega⟩, c1, c2, h7, fun q => c4⟩
            · rw [if_pos (show ¬ (be : Int) = 7 by omega)]
              exact no (fun q => c4 (q.2.2.2.2 (by omega)))
        by_cases c3 : 0 < j
        · rw [if_pos (by omega)]
          exact p184 (fun q => by omega)
        · rw [if_neg (by omega)]
          by_cases c4 : ah = 7
          · rw [ifnn (show (ah : Int) = 7 by omega)]
            exact p184 (fun _ => c4)
          · rw [if_pos (show ¬ (ah : Int) = 7 by omega)]
            exact no (fun q => c4 (q.2.2.2.1 (by omega)))
      · rw [mIn_f c2, if_pos rfl]
        exact no (fun q => c2 q.2.2.1)
    · rw [mIn_f c1, if_pos rfl]
      exact no (fun q => c1 q.2.1)
theorem pM_made_121 {x : Nat} {T : List Cl} {bar : Int} {W : Nat → Ln} {vv e n : Nat} {last : Int} (hT : T.length ≤ 10) (hs : KS W vv e n last) {j : Nat} (hj : j < n) (which : Int) (σ0 : Zm) (P : Int → Zm → Prop) (K : Int → Int → Int → Int → Int → Int → Int → Zm → Zr) (hK : ∀ σ', zg oMb σ0 σ' → KM x T bar W vv e σ' → TB T W vv e bar last n (d3 j 15 0) σ' → zwp (K (x : Int) (vv : Int) (n : Int) which (e : Int) last (j : Int) σ') P) : ∀ (d m be : Nat) (σ : Zm), d < m → be + d = 15 → zg oMb σ0 σ → KM x T bar W vv e σ → TB T W vv e bar last n (d3 j be 0) σ → zwp (fM_made_121 m (x : Int) (vv : Int) (n : Int) which (e : Int) last (j : Int) (be : Int) σ K) P
  | 0, m + 1, be, σ, _, ha, h1, h2, h3 => by
    have : be = 15 := by omega
    subst this
    rw [fM_made_121]
    simp only [zwp_let]
    rw [if_pos (by decide)]
    exact hK σ h1 h2 h3
  | d + 1, m + 1, be, σ, hm, ha, h1, h2, h3 => by
    rw [fM_made_121]
    simp only [zwp_let]
    rw [if_neg (by omega)]
    refine pM_made_131 hT hs hj (show be < 15 by omega) which σ _ _ (fun σ1 g1 k1 t1 => ?_) 15 5000 0 σ (by omega) (by omega) zg.rf h2 h3
    rw [show zw ((be : Int) + 1) = ((be + 1 : Nat) : Int) by rw [zwj (by omega) (by omega)]; omega]
    refine pM_made_121 hT hs hj which σ0 P K hK d m (be + 1) σ1 (by omega) (by omega) (h1.tr g1) k1 (fun j' be' ah' hj' htv hd => t1 j' be' ah' hj' htv ?_)
    have := htv.1
    unfold d3 at hd ⊢
    omega
theorem pM_made_113 {x : Nat} {T : List Cl} {bar : Int} {W : Nat → Ln} {vv e n : Nat} {last : Int} (hT : T.length ≤ 10) (hs : KS W vv e n last) (which : Int) (σ0 : Zm) (P : Int → Zm → Prop) (K : Int → Int → Int → Int → Int → Int → Zm → Zr) (hK : ∀ σ', zg oMb σ0 σ' → KM x T bar W vv e σ' → TB T W vv e bar last n (fun _ _ _ => True) σ' → zwp (K (x : Int) (vv : Int) (n : Int) which (e : Int) last σ') P) : ∀ (j m : Nat) (σ : Zm), j < m → j ≤ n → zg oMb σ0 σ → KM x T bar W vv e σ → TB T W vv e bar last n (fun j' _ _ => j ≤ j') σ → zwp (fM_made_113 m (x : Int) (vv : Int) (n : Int) which (e : Int) last ((j : Int) - 1) σ K) P
  | 0, m + 1, σ, _, ha, h1, h2, h3 => by
    rw [fM_made_113]
    simp only [zwp_let]
    rw [if_pos (by omega)]
    exact hK σ h1 h2 (fun j' be' ah' a b _ => h3 j' be' ah' a b (Nat.zero_le _))
  | j + 1, m + 1, σ, hm, ha, h1, h2, h3 => by
    have h6 := hs.2.2.2.2.2.1
    rw [fM_made_113]
    simp only [zwp_let]
    rw [if_neg (by omega), show ((j + 1 : Nat) : Int) - 1 = (j : Int) by omega]
    refine pM_made_121 hT hs (show j < n by omega) which σ _ _ (fun σ1 g1 k1 t1 => ?_) 15 5000 0 σ (by omega) (by omega) zg.rf h2 (fun j' be' ah' a b c => h3 j' be' ah' a b (by unfold d3 at c; omega))
    rw [show zw ((j : Int) + (-1)) = (j : Int) - 1 by rw [zwj (by omega) (by omega)]; omega]
    refine pM_made_113 hT hs which σ0 P K hK j m σ1 (by omega) (by omega) (h1.tr g1) k1 (fun j' be' ah' a b c => t1 j' be' ah' a b ?_)
    have := b.1
    unfold d3
    omega
theorem cst_0 {T : List Cl} {W : Nat → Ln} {vv e : Nat} {bar : Int} (p2 p1 p2' p1' p : Int) : cst T W vv e bar 0 p2 p1 p = cst T W vv e bar 0 p2' p1' p := by
  have : nl (W vv) e 0 p2 p1 p = nl (W vv) e 0 p2' p1' p := by funext t; unfold nl; simp
  unfold cst
  rw [this]
theorem cst_1 {T : List Cl} {W : Nat → Ln} {vv e : Nat} {bar : Int} (p2 p2' p1 p : Int) : cst T W vv e bar 1 p2 p1 p = cst T W vv e bar 1 p2' p1 p := by
  have : nl (W vv) e 1 p2 p1 p = nl (W vv) e 1 p2' p1 p := by funext t; unfold nl; simp
  unfold cst
  rw [this]
theorem hmf_0 {T : List Cl} {W : Nat → Ln} {vv e : Nat} {bar lo : Int} {many k : Nat} (p2 p1 p2' p1' : Int) : hmf (cst T W vv e bar) lo many k 0 p2 p1 = hmf (cst T W vv e bar) lo many k 0 p2' p1' := by
  funext x
  unfold hmf
  rw [cst_0 p2 p1 p2' p1', hmn_01 p1 p1']
theorem hmf_1 {T : List Cl} {W : Nat → Ln} {vv e : Nat} {bar lo : Int} {many k : Nat} (p2 p2' p1 : Int) : hmf (cst T W vv e bar) lo many k 1 p2 p1 = hmf (cst T W vv e bar) lo many k 1 p2' p1 := by
  funext x
  unfold hmf
  rw [cst_1 p2 p2' p1]
theorem hmn_00 {T : List Cl} {W : Nat → Ln} {vv e : Nat} {bar lo : Int} {many k : Nat} (p2 p1 p2' p1' : Int) : hmn (cst T W vv e bar) lo many k 0 p2 p1 = hmn (cst T W vv e bar) lo many k 0 p2' p1' := by
  cases k with
  | zero => rfl
  | succ k =>
    show (bst (hmf (cst T W vv e bar) lo many k 0 p2 p1) many).1 = (bst (hmf (cst T W vv e bar) lo many k 0 p2' p1') many).1
    rw [hmf_0 p2 p1 p2' p1']
/-- the two notes ahead, as the reference walks -/
def WK (T : List Cl) (W : Nat → Ln) (vv e : Nat) (bar last : Int) (n i be ah : Nat) : Prop := (i = 0 → be = 7 ∧ ah = 7) ∧ (1 ≤ i → last - 7 + (ah : Int) = (chs (cst T W vv e bar) (klo last) (kmn last) n (i - 1)).2) ∧ (i = 1 → be = 7) ∧ (2 ≤ i → last - 7 + (be : Int) = (chs (cst T W vv e bar) (klo last) (kmn last) n (i - 1)).1)
theorem WK_chs {T : List Cl} {W : Nat → Ln} {vv e : Nat} {bar last : Int} {n i be ah : Nat} (h : WK T W vv e bar last n i be ah) : klo last + (bst (HF T W vv e bar last n i be ah) (kmn last)).2 = (chs (cst T W vv e bar) (klo last) (kmn last) n i).2 := by
  obtain ⟨h1, h2, h3, h4⟩ := h
  match i, h1, h2, h3, h4 with
  | 0, h1, _, _, _ =>
    show _ = klo last + (bst (hmf (cst T W vv e bar) (klo last) (kmn last) (n - 1) 0 (klo last) (klo last)) (kmn last)).2
    unfold HF
    rw [hmf_0 _ _ (klo last) (klo last)]
    rfl
  | 1, _, h2, h3, _ =>
    show _ = klo last + (bst (hmf (cst T W vv e bar) (klo last) (kmn last) (n - (0 + 1) - 1) (0 + 1) (chs (cst T W vv e bar) (klo last) (kmn last) n 0).1 (chs (cst T W vv e bar) (klo last) (kmn last) n 0).2) (kmn last)).2
    have e1 := h2 (by omega)
    rw [show 1 - 1 = 0 from rfl] at e1
    unfold HF
    rw [e1, hmf_1 _ (chs (cst T W vv e bar) (klo last) (kmn last) n 0).1]
  | i + 2, _, h2, _, h4 =>
    show _ = klo last + (bst (hmf (cst T W vv e bar) (klo last) (kmn last) (n - (i + 1 + 1) - 1) (i + 1 + 1) (chs (cst T W vv e bar) (klo last) (kmn last) n (i + 1)).1 (chs (cst T W vv e bar) (klo last) (kmn last) n (i + 1)).2) (kmn last)).2
    have e1 := h2 (by omega)
    have e2 := h4 (by omega)
    rw [show i + 2 - 1 = i + 1 by omega] at e1 e2
    unfold HF
    rw [e1, e2]
theorem chs_1 (c : Nat → Int → Int → Int → Int) (lo : Int) (many n i : Nat) : (chs c lo many n (i + 1)).1 = (chs c lo many n i).2 := rfl
theorem pM_made_273 {x : Nat} {T : List Cl} {bar : Int} {W : Nat → Ln} {vv e n : Nat} {last : Int} (hT : T.length ≤ 10) (hs : KS W vv e n last) (which : Nat) (hw : which < n) (σ0 : Zm) (P : Int → Zm → Prop) (K : Int → Int → Int → Int → Int → Int → Int → Int → Zm → Zr) (hK : ∀ σ' be ah, zg oMb σ0 σ' → KM x T bar W vv e σ' → TB T W vv e bar last n (fun _ _ _ => True) σ' → tv last which be ah → WK T W vv e bar last n which be ah → zwp (K (x : Int) (vv : Int) (n : Int) (which : Int) (e : Int) last (be : Int) (ah : Int) σ') P) : ∀ (d m i : Nat) (be ah : Nat) (σ : Zm), d < m → i + d = which → zg oMb σ0 σ → KM x T bar W vv e σ → TB T W vv e bar last n (fun _ _ _ => True) σ → tv last i be ah → WK T W vv e bar last n i be ah → zwp (fM_made_273 m (x : Int) (vv : Int) (n : Int) (which : Int) (e : Int) last (be : Int) (ah : Int) (i : Int) σ K) P
  | 0, m + 1, i, be, ah, σ, _, hi, h1, h2, h3, h4, h5 => by
    have : i = which := by omega
    subst this
    rw [fM_made_273]
    simp only [zwp_let]
    rw [if_pos (by omega)]
    exact hK σ be ah h1 h2 h3 h4 h5
  | d + 1, m + 1, i, be, ah, σ, hm, hi, h1, h2, h3, h4, h5 => by
    have hs' := hs
    obtain ⟨s1, s2, s3, s4, s5, s6, s7, s8⟩ := hs
    have hl : 0 ≤ last ∧ last ≤ 60 := ⟨s7, s8⟩
    rw [fM_made_273]
    simp only [zwp_let]
    rw [if_neg (by omega), zwp_bi]
    refine zwp_mono (qM_bestAt hT hs' (show i < n by omega) h4 σ h2 (fun y q1 q2 => h3 (i + 1) ah y q1 q2 trivial)) (fun r σ1 ⟨g1, k1, v1, e1⟩ => ?_)
    obtain ⟨off, q1, q2, q3, q4, q5, q6, q7⟩ := klo_ok hl
    obtain ⟨z, z1, z2⟩ := bst_2 (P := HF T W vv e bar last n i be ah) (kmn last) q2 (fun k => (HF_bd hT hl s6 k).2)
    have hr : zw r = ((off + z : Nat) : Int) := by rw [e1, z2, zwj (by omega) (by omega)]; omega
    have hch := WK_chs h5
    have h31 : TB T W vv e bar last n (fun _ _ _ => True) σ1 := by
      intro j' be' ah' hj' htv _
      rw [v1]
      by_cases q : 225 * j' + 15 * be' + ah' = 225 * i + 15 * be + ah
      · have t1 := htv.1
        have t2 := h4.1
        have r1 : j' = i := by omega
        have r2 : be' = be := by omega
        have r3 : ah' = ah := by omega
        subst r1; subst r2; subst r3
        rw [if_pos rfl]
      · rw [if_neg q]
        exact h3 j' be' ah' hj' htv trivial
    have h41 := h4.1
    have h42 := h4.2.2.1
    rw [hr, show zw ((i : Int) + 1) = ((i + 1 : Nat) : Int) by rw [zwj (by omega) (by omega)]; omega]
    by_cases c : i = 0
    · rw [if_neg (show ¬ ¬ (i : Int) = 0 by omega)]
      subst c
      refine pM_made_273 hT hs' which hw σ0 P K hK d m 1 7 (off + z) σ1 (by omega) (by omega) (h1.tr g1) k1 h31 ⟨⟨by omega, by omega⟩, ⟨by omega, by omega⟩, ⟨by omega, by omega⟩, fun q => by omega, fun _ => rfl⟩ ⟨fun q => by omega, fun _ => ?_, fun _ => rfl, fun q => by omega⟩
      rw [show 1 - 1 = 0 from rfl, ← hch, z2]
      omega
    · rw [if_pos (show ¬ (i : Int) = 0 by omega)]
      refine pM_made_273 hT hs' which hw σ0 P K hK d m (i + 1) ah (off + z) σ1 (by omega) (by omega) (h1.tr g1) k1 h31 ⟨⟨by omega, by omega⟩, h42, ⟨by omega, by omega⟩, fun q => by omega, fun q => by omega⟩ ⟨fun q => by omega, fun _ => ?_, fun q => by omega, fun q => ?_⟩
      · rw [show i + 1 - 1 = i by omega, ← hch, z2]
        omega
      · rw [show i + 1 - 1 = i by omega]
        have e := h5.2.1 (by omega)
        obtain ⟨k, rfl⟩ : ∃ k, i = k + 1 := ⟨i - 1, by omega⟩
        rw [chs_1, e, show k + 1 - 1 = k by omega]
theorem pM_made_56 {A : Nat → Ln} {σ : Zm} (h : MV A σ) {v : Nat} (hv : v < 4) (x1 x4 x5 : Int) (P : Int → Zm → Prop) (K : Int → Int → Int → Int → Int → Zm → Zr) : ∀ (i m : Nat), i < m → i ≤ 32 → zwp (K x1 (v : Int) x4 x5 (pbt (fun t => (A v t).1) i : Int) σ) P → zwp (fM_made_56 m x1 (v : Int) x4 x5 (i : Int) σ K) P
  | 0, m + 1, _, _, hK => by
    rw [fM_made_56]
    simp only [zwp_let]
    rw [if_pos (by decide)]
    exact hK
  | i + 1, m + 1, hm, hi, hK => by
    have e : pbt (fun t => (A v t).1) (i + 1) = if (A v i).1 = 0 then pbt (fun t => (A v t).1) i else i + 1 := rfl
    rw [fM_made_56]
    simp only [zwp_let]
    rw [if_neg (by omega), show zw (((i + 1 : Nat) : Int) - 1) = (i : Int) by rw [zwj (by omega) (by omega)]; omega, zbi_eq (qM_sounds h hv (i : Int) (by omega))]
    by_cases c : (A v i).1 = 0
    · have hls : lsi (A v) (i : Int) = 0 := by unfold lsi; rw [Int.toNat_natCast, if_neg (fun q => q.2 c)]
      rw [hls, if_neg (by decide), show zw (((i + 1 : Nat) : Int) + (-1)) = (i : Int) by rw [zwj (by omega) (by omega)]; omega]
      rw [e, if_pos c] at hK
      exact pM_made_56 h hv x1 x4 x5 P K i m (by omega) (by omega) hK
    · have hls : lsi (A v) (i : Int) = 1 := by unfold lsi; rw [Int.toNat_natCast, if_pos ⟨by omega, c⟩]
      rw [hls, if_pos (by decide)]
      rw [e, if_neg c] at hK
      exact hK
theorem pbt_last (f : Nat → Int) : ∀ n, 1 ≤ pbt f n → f (pbt f n - 1) ≠ 0
  | 0, h => absurd h (by show ¬ 1 ≤ 0; omega)
  | n + 1, h => by
    have e : pbt f (n + 1) = if f n = 0 then pbt f n else n + 1 := rfl
    by_cases c : f n = 0
    · rw [e, if_pos c] at h ⊢
      exact pbt_last f n h
    · rw [e, if_neg c]
      exact c
def oMm (q : Nat) : Prop := oMb q
theorem oMb_sc {q : Nat} (h : oMb q) : scM q := by unfold oMb oMg at h; unfold scM; omega
/-- the reference's answer, once the piece is laid -/
theorem qM_made_79 {x : Nat} {T : List Cl} {bar : Int} {W : Nat → Ln} {vv n : Nat} (hT : T.length ≤ 10) (hW : ∀ i, lsm (W i)) (h60 : ∀ t, 0 ≤ (W vv t).2 ∧ (W vv t).2 ≤ 60) (hvv : vv < 4) (hn : 1 ≤ n ∧ n ≤ 5) (he : 1 ≤ lbt (W vv)) (hen : lbt (W vv) + n ≤ 32) (which : Int) (hw : -1 ≤ which ∧ which < n) (σ : Zm) (hk : mok x T bar W σ) : zwp (fM_made_79 (x : Int) (vv : Int) (n : Int) which (lbt (W vv) : Int) σ) (fun r σ' => zg oMb σ σ' ∧ r = if which = -1 then hmn (cst T W vv (lbt (W vv)) bar) (klo (W vv (lbt (W vv) - 1)).2) (kmn (W vv (lbt (W vv) - 1)).2) n 0 (klo (W vv (lbt (W vv) - 1)).2) (klo (W vv (lbt (W vv) - 1)).2) else (chs (cst T W vv (lbt (W vv)) bar) (klo (W vv (lbt (W vv) - 1)).2) (kmn (W vv (lbt (W vv) - 1)).2) n which.toNat).2) := by
  obtain ⟨y1, y2, y3, y4, y5, y6, y7⟩ := hk
  have hnz : (W vv (lbt (W vv) - 1)).1 ≠ 0 := pbt_last (fun t => (W vv t).1) 32 he
  have hl := h60 (lbt (W vv) - 1)
  have hu : updl W vv (W vv) = W := by
    funext i
    unfold updl
    by_cases c : i = vv
    · rw [if_pos c, c]
    · rw [if_neg c]
  have hs : KS W vv (lbt (W vv)) n (W vv (lbt (W vv) - 1)).2 := ⟨hW, hvv, he, hen, hn.1, hn.2, hl.1, hl.2⟩
  have hkm : KM x T bar W vv (lbt (W vv)) σ := ⟨⟨y1, y2, y3, y4, y5⟩, W vv, by rw [hu]; exact y6, fun _ _ => rfl, hW vv⟩
  have e79 := qM_pitchAt y6 hvv (lbt (W vv) - 1) (by omega) hnz
  generalize hq : (W vv (lbt (W vv) - 1)).2 = last at *
  obtain ⟨off, q1, q2, q3, q4, q5, q6, q7⟩ := klo_ok hl
  unfold fM_made_79
  rw [if_neg (by omega), show zw ((lbt (W vv) : Int) + (n : Int)) = ((lbt (W vv) + n : Nat) : Int) by rw [zwj (by omega) (by omega)]; omega, if_pos (by omega), show zw ((lbt (W vv) : Int) - 1) = ((lbt (W vv) - 1 : Nat) : Int) by rw [zwj (by omega) (by omega)]; omega, zbi_eq e79, zwj (a := last) (by omega) (by omega), zwp_let, show zw ((n : Int) - 1) = (n : Int) - 1 by rw [zwj (by omega) (by omega)]]
  refine pM_made_113 hT hs which σ _ _ (fun σ1 g1 k1 t1 => ?_) n 5000 σ (by omega) (by omega) zg.rf hkm (fun j' _ _ a _ c => absurd c (by omega))
  have t77 : tv last 0 7 7 := ⟨⟨by omega, by omega⟩, ⟨by omega, by omega⟩, ⟨by omega, by omega⟩, fun _ => rfl, fun _ => rfl⟩
  by_cases c : which = -1
  · have hvl := VL_bd hT (W := W) (vv := vv) (e := lbt (W vv)) (bar := bar) hl (n := n) (j := 0) (be := 7) (ah := 7) hn.2
    rw [ifnn c, if_pos c]
    unfold fM_cheap
    rw [show zw (225 * 0 + 15 * 7 + 7) = ((225 * 0 + 15 * 7 + 7 : Nat) : Int) by decide, zckj (by omega) (by omega), zwp_bi, zwp_let, Int.toNat_natCast, t1 0 7 7 (by omega) t77 trivial, zwp_some, zwp_some, zwj (by omega) (by omega)]
    refine ⟨g1, ?_⟩
    unfold VL
    rw [Nat.sub_zero, hmn_00 _ _ (klo last) (klo last)]
  · obtain ⟨wn, hwn⟩ : ∃ wn : Nat, which = (wn : Int) := ⟨which.toNat, by omega⟩
    subst hwn
    rw [if_pos c, if_neg c, Int.toNat_natCast]
    refine pM_made_273 hT hs wn (by omega) σ1 _ _ (fun σ2 be ah g2 k2 t2 v2 w2 => ?_) wn 5000 0 7 7 σ1 (by omega) (by omega) zg.rf k1 t1 t77 ⟨fun _ => ⟨rfl, rfl⟩, fun q => by omega, fun _ => rfl, fun q => by omega⟩
    rw [zwp_bi]
    refine zwp_mono (qM_bestAt hT hs (show wn < n by omega) v2 σ2 k2 (fun y q1 q2 => t2 (wn + 1) ah y q1 q2 trivial)) (fun r σ3 ⟨g3, k3, v3, e3⟩ => ?_)
    obtain ⟨z, z1, z2⟩ := bst_2 (P := HF T W vv (lbt (W vv)) bar last n wn be ah) (kmn last) q2 (fun k => (HF_bd hT hl hn.2 k).2)
    have hch := WK_chs w2
    rw [zwp_some, e3, ← hch, z2, zwj (by omega) (by omega)]
    exact ⟨(g1.tr g2).tr g3, by omega⟩
theorem nX_made {w : Wd} {σ : Zm} (g : GI w) (hX : XI w σ) (x1 x2 x3 x4 x5 : Int) (c : ¬ ((0 ≤ x1 ∧ x1 < wN w 1) ∧ (0 ≤ x2 ∧ x2 ≤ 3) ∧ (0 ≤ x3 ∧ x3 ≤ 3) ∧ (1 ≤ x4 ∧ x4 ≤ 5))) : fX_made σ x1 x2 x3 x4 x5 = some ((-1), σ) := by
  unfold fX_made
  by_cases c0 : 0 ≤ x1 ∧ x1 < wN w 1
  · rw [xText_t g hX c0, if_neg (by decide)]
    by_cases c1 : 0 ≤ x2 ∧ x2 ≤ 3
    · rw [xPiece_t c1, if_neg (by decide)]
      by_cases c2 : 0 ≤ x3 ∧ x3 ≤ 3
      · rw [xVoice_t c2, if_neg (by decide)]
        by_cases c3 : 1 ≤ x4 ∧ x4 ≤ 5
        · rw [pwithin_t c3, if_pos (by decide)]
          exact absurd (by grind) c
        · rw [pwithin_f c3, if_neg (by decide)]
      · rw [xVoice_f c2, if_pos rfl]
    · rw [xPiece_f c1, if_pos rfl]
  · rw [xText_f g hX c0, if_pos rfl]
theorem nM_made {w : Wd} {σ : Zm} (g : GI w) (hM : MI w σ) (x1 x2 x3 x4 x5 : Int) (c : ¬ ((0 ≤ x1 ∧ x1 < wN w 1) ∧ (0 ≤ x2 ∧ x2 ≤ 3) ∧ (0 ≤ x3 ∧ x3 ≤ 3) ∧ (1 ≤ x4 ∧ x4 ≤ 5) ∧ (-1 ≤ x5 ∧ x5 ≤ zw (x4 - 1)))) : fM_made σ x1 x2 x3 x4 x5 = some ((-1), σ) := by
  unfold fM_made
  by_cases c0 : 0 ≤ x1 ∧ x1 < wN w 1
  · rw [mText_t g hM c0, if_neg (by decide)]
    by_cases c1 : 0 ≤ x2 ∧ x2 ≤ 3
    · rw [mPiece_t c1, if_neg (by decide)]
      by_cases c2 : 0 ≤ x3 ∧ x3 ≤ 3
      · rw [mVoice_t c2, if_neg (by decide)]
        by_cases c3 : 1 ≤ x4 ∧ x4 ≤ 5
        · rw [mIn_t c3, if_neg (by decide)]
          by_cases c4 : (-1) ≤ x5 ∧ x5 ≤ (zw (x4 - 1))
          · rw [mIn_t c4, if_pos (by decide)]
            exact absurd (by grind) c
          · rw [mIn_f c4, if_neg (by decide)]
        · rw [mIn_f c3, if_pos rfl]
      · rw [mVoice_f c2, if_pos rfl]
    · rw [mPiece_f c1, if_pos rfl]
  · rw [mText_f g hM c0, if_pos rfl]
theorem st_made (x1 x2 x3 x4 x5 : Int) : St (fun σ => fX_made σ x1 x2 x3 x4 x5) (fun σ => fM_made σ x1 x2 x3 x4 x5) := by
  intro σ h
  have hI := h
  obtain ⟨w, p, g, gp, hX, hM, hXT, hMP⟩ := h
  by_cases c : (0 ≤ x1 ∧ x1 < wN w 1) ∧ (0 ≤ x2 ∧ x2 ≤ 3) ∧ (0 ≤ x3 ∧ x3 ≤ 3) ∧ (1 ≤ x4 ∧ x4 ≤ 5)
  · obtain ⟨c1, c2, c3, c4⟩ := c
    have hn := (GI_n g).2.1
    obtain ⟨x, rfl, hx⟩ := nat_of (x := x1) (n := 6) (by omega)
    obtain ⟨y, rfl, hy⟩ := nat_of (x := x2) (n := 4) (by omega)
    obtain ⟨v, rfl, hv⟩ := nat_of (x := x3) (n := 4) (by omega)
    obtain ⟨n, rfl, hn6⟩ := nat_of (x := x4) (n := 6) (by omega)
    obtain ⟨a1, a2, a3, a4⟩ := xVo hX.1.1 (show 4 * y + v < 16 by omega)
    have hT := wTl hX hx c1.2
    have h60 := vok_60 (g.1.1 (4 * y + v))
    have hle : lbt (wV w (4 * y + v)) ≤ 32 := pbt_le _ _
    show zwp (fX_made σ (x : Int) (y : Int) (v : Int) (n : Int) x5) _
    have mneg : ¬ (-1 ≤ x5 ∧ x5 ≤ zw ((n : Int) - 1)) → zwp (fM_made σ (x : Int) (y : Int) (v : Int) (n : Int) x5) (fun r2 σ2 => -1 = r2 ∧ Inv σ2) := by
      intro q
      rw [nM_made g hM (x : Int) (y : Int) (v : Int) (n : Int) x5 (fun z => q z.2.2.2.2), zwp_some]
      exact ⟨rfl, hI⟩
    have mk : ∀ (σ1 : Zm) (r : Int), zfo scX σ σ1 → (-1 ≤ x5 ∧ x5 ≤ zw ((n : Int) - 1)) → (∀ σ2, zfo scM σ1 σ2 → (∀ k, k ≤ 25 → zrd σ2 273 k = zrd σ1 273 k) → mok x (wT w x) (wN w 0) (fun v => wV w (4 * y + v)) σ2 → zwp (fM_made_79 (x : Int) (v : Int) (n : Int) x5 (lbt (wV w (4 * y + v)) : Int) σ2) (fun r2 σ3 => zg oMb σ2 σ3 ∧ r = r2)) → zwp (fM_made σ1 (x : Int) (y : Int) (v : Int) (n : Int) x5) (fun r2 σ2 => r = r2 ∧ Inv σ2) := by
      intro σ1 r f1 c5 hF
      have hM1 := MI_sX hM f1
      unfold fM_made
      rw [mText_t g hM1 c1, if_neg (by decide), mPiece_t c2, if_neg (by decide), mVoice_t c3, if_neg (by decide), mIn_t c4, if_neg (by decide), mIn_t c5, if_pos (by decide), zwp_bv]
      refine zwp_mono (qM_layPiece g.1.1 y hy σ1 hM1.1.1) (fun _ σ2 ⟨f2, b2⟩ => ?_)
      have h2 : MI w σ2 := MI_fo hM1 f2 (by omega) (by omega) (by omega)
      have hf2 : zfo scM σ1 σ2 := f2.mono (fun q z => by unfold scM; omega)
      have hk2 : ∀ k, k ≤ 25 → zrd σ2 273 k = zrd σ1 273 k := fun k _ => f2.rd (by omega) k
      refine pM_made_56 b2 hv _ _ _ _ _ 32 5000 (by omega) (by omega) ?_
      refine zwp_mono (hF σ2 hf2 hk2 (mJok g h2 hx c1.2 b2 (fun v _ => vok_sm (g.1.1 _)))) (fun r2 σ3 ⟨g3, e3⟩ => ⟨e3, Inv_sc hI f1 (hf2.tr (g3.1.mono (fun q z => oMb_sc z))) (fun k a b => by rw [g3.2 k (by omega), hk2 k (by omega)])⟩)
    unfold fX_made
    rw [xText_t g hX c1, if_neg (by decide), xPiece_t c2, if_neg (by decide), xVoice_t c3, if_neg (by decide), pwithin_t c4, if_pos (by decide), zvo hy hv, zckj (by omega) (by omega), Int.toNat_natCast, a1, zbi_eq (qL_beats a2 (by omega) σ), a3, zwj (a := (lbt (wV w (4 * y + v)) : Int)) (by omega) (by omega)]
    by_cases c5 : -1 ≤ x5 ∧ x5 ≤ zw ((n : Int) - 1)
    · have c5' : -1 ≤ x5 ∧ x5 < n := by rw [zwj (by omega) (by omega)] at c5; omega
      rw [pwithin_t c5, if_neg (by decide)]
      by_cases d1 : lbt (wV w (4 * y + v)) = 0
      · rw [if_pos (by omega), zwp_some]
        refine mk σ (-1) zfo.rf c5 (fun σ2 _ _ _ => ?_)
        unfold fM_made_79
        rw [if_pos (by omega), zwp_some]
        exact ⟨zg.rf, rfl⟩
      · rw [if_neg (by omega), show zw ((lbt (wV w (4 * y + v)) : Int) + (n : Int)) = ((lbt (wV w (4 * y + v)) + n : Nat) : Int) by rw [zwj (by omega) (by omega)]; omega]
        by_cases d2 : lbt (wV w (4 * y + v)) + n ≤ 32
        · obtain ⟨r1, r2⟩ := ru_R hx
          rw [if_pos (by omega), zwp_bv]
          refine zwp_mono (qK_begin hy hv ⟨by omega, by omega⟩ r1 (g.2.2.2 x hx c1.2) σ (hX.2.2 x hx c1.2) hX.1.1 hX.1.2.2.1 (GI_n g).1 (fun i => vok_sm (g.1.1 i)) h60 (by omega) d2) (fun _ σ1 ⟨f1, k1, k2⟩ => ?_)
          rw [zckj (by omega) (by omega), Int.toNat_natCast, r2, zwp_bv]
          refine zwp_mono (qK_solve k2 σ1 k1) (fun _ σ2 ⟨f2, e1, e2⟩ => ?_)
          have g2 : zfo scX σ σ2 := zIn (f1.tr f2) (fun q z => by unfold oK at z; unfold scX; omega)
          have key : ∀ r, (r = if x5 = -1 then zrd σ2 177 10 else zrd σ2 197 x5.toNat) → zwp (fM_made σ2 (x : Int) (y : Int) (v : Int) (n : Int) x5) (fun r2 σ3 => r = r2 ∧ Inv σ3) := by
            intro r hr
            refine mk σ2 r g2 c5 (fun σ3 f3 k3 m3 => ?_)
            refine zwp_mono (qM_made_79 hT (fun i => vok_sm (g.1.1 _)) h60 hv ⟨by omega, by omega⟩ (by omega) d2 x5 c5' σ3 m3) (fun r2 σ4 ⟨g4, e4⟩ => ⟨g4, ?_⟩)
            rw [hr, e4]
            by_cases d3 : x5 = -1
            · rw [if_pos d3, if_pos d3, e1]
            · rw [if_neg d3, if_neg d3, e2 x5.toNat (by omega)]
          by_cases d3 : x5 = -1
          · rw [ifnn d3, zwp_let, zwp_some]
            exact key _ (by rw [if_pos d3])
          · rw [if_pos d3, zckj (by omega) (by omega), zwp_let, zwp_some]
            exact key _ (by rw [if_neg d3])
        · rw [if_neg (by omega), zwp_some]
          refine mk σ (-1) zfo.rf c5 (fun σ2 _ _ _ => ?_)
          unfold fM_made_79
          rw [if_neg (by omega), show zw ((lbt (wV w (4 * y + v)) : Int) + (n : Int)) = ((lbt (wV w (4 * y + v)) + n : Nat) : Int) by rw [zwj (by omega) (by omega)]; omega, if_neg (by omega), zwp_some]
          exact ⟨zg.rf, rfl⟩
    · rw [pwithin_f c5, if_pos rfl, zwp_some]
      exact mneg c5
  · exact St_neg hI (nX_made g hX x1 x2 x3 x4 x5 c) (nM_made g hM x1 x2 x3 x4 x5 (fun z => c ⟨z.1, z.2.1, z.2.2.1, z.2.2.2.1⟩))

/-! MY OWN: the class's Fitter -/
def lss (a : Ln) : Prop := ∀ t, -900 ≤ (a t).2 ∧ (a t).2 ≤ 900
theorem lss.sm {a : Ln} (h : lss a) : lsm a := fun t => by have := h t; omega
theorem lfm_sm1 {a : Ln} (ha : lss a) {d B : Nat} {h sg : Int} (hh : 0 ≤ h ∧ h ≤ 100) (hs : sg = 1 ∨ sg = -1) : lsm (lfm1 a d h sg B) := by
  intro t
  unfold lfm1
  have := ha ((t - d) / 1)
  split
  · rcases hs with rfl | rfl <;> simp only [] <;> omega
  · simp
theorem lfm_sm2 {a : Ln} (ha : lss a) {d B : Nat} {h sg : Int} (hh : 0 ≤ h ∧ h ≤ 100) (hs : sg = 1 ∨ sg = -1) : lsm (lfm2 a d h sg B) := by
  intro t
  unfold lfm2
  have := ha ((t - d) / 2)
  split
  · rcases hs with rfl | rfl <;> simp only [] <;> omega
  · simp
theorem lfo_sm {a : Ln} (ha : lss a) (f : Nat) : lsm (lfo a f) := by
  have h2 : ((if f / 225 % 2 = 1 then -1 else 1 : Int) = 1) ∨ ((if f / 225 % 2 = 1 then -1 else 1 : Int) = -1) := by split; exact Or.inr rfl; exact Or.inl rfl
  unfold lfo
  split
  · exact lfm_sm1 ha (by omega) h2
  · exact lfm_sm2 ha (by omega) h2
def ru (R : Nat) : Prop := 225 ≤ R ∧ R + 5 ≤ 260 ∧ zLN (R + 1) = 300
def oF (q : Nat) : Prop := 157 ≤ q ∧ q ≤ 176
def oFp (q : Nat) : Prop := (158 ≤ q ∧ q ≤ 161) ∨ q = 166 ∨ q = 167
theorem zli_162 : zli 32 162 := by unfold zli; decide +kernel
theorem zli_165 : zli 32 165 := by unfold zli; decide +kernel
theorem zli_168 : zli 32 168 := by unfold zli; decide +kernel
theorem zli_171 : zli 12 171 := by unfold zli; decide +kernel
/-- the fitter has begun -/
def fok (R : Nat) (T : List Cl) (bar : Int) (one : Ln) (σ : Zm) : Prop := jok 158 R T bar σ ∧ lok 158 162 (lfo one 12) σ ∧ zrd σ 157 8 = lq T (lfo one 12) bar 32 0 ∧ lss one
/-- a subject's line -/
def sok (o : Nat) (a : Ln) (σ : Zm) : Prop := zli 12 o ∧ ((57 ≤ o ∧ o ≤ 72) ∨ o = 171) ∧ ln 12 σ o = a ∧ lss a
def fpr (T : List Cl) (a b : Ln) (bar : Int) (f : Nat) : Int := lq T (lfo a 12) bar 32 0 + lq T (lfo b f) bar 32 0 + pq T (lfo a 12) (lfo b f) bar 32 0
theorem fpr_bd {T : List Cl} (hT : T.length ≤ 10) (a b : Ln) (bar : Int) (f : Nat) : 0 ≤ fpr T a b bar f ∧ fpr T a b bar f ≤ 10000000 := by
  have h1 := lq_bd hT (lfo a 12) bar 32 0
  have h2 := lq_bd hT (lfo b f) bar 32 0
  have h3 := pq_bd hT (lfo a 12) (lfo b f) bar 32 0
  unfold fpr
  omega
theorem qJ_begin {J : Nat} (σ : Zm) (bar w : Int) (hb : 1 ≤ bar ∧ bar ≤ 12) (hw : zw w = w) : ∃ σ', fJ_begin σ J bar w = some (0, σ') ∧ zfo (oO J) σ σ' ∧ zrd σ' J 3 = bar ∧ zrd σ' J 4 = w ∧ zrd σ' J 5 = 0 ∧ zrd σ' J 6 = 0 := by
  refine ⟨_, rfl, zfo.rf.st1.st1.st1.st1, ?_, ?_, ?_, ?_⟩
  · simp [zrd_st]
    rw [zwj (by omega) (by omega)]; omega
  · simp [zrd_st, hw]
  · simp [zrd_st]; decide
  · simp [zrd_st]; decide
theorem sok_oD {o : Nat} {a : Ln} {σ : Zm} (h : sok o a σ) {p : Nat} (hp : p = 162 ∨ p = 165 ∨ p = 168) : ¬ oD p (o + 1) ∧ ¬ oD p (o + 2) := by
  have := h.2.1
  unfold oD
  omega
theorem ru_J {R J : Nat} (h : ru R) (hJ : J + 3 < 225) : ∀ j, j < 6 → ¬ oJ J (R + j) := by
  intro j hj
  have := h.1
  unfold oJ
  omega
theorem qF_begin {R : Nat} {T : List Cl} {bar : Int} {one : Ln} {o : Nat} (σ : Zm) (hR : ru R) (hT : TRc σ R T) (hW : WF T) (hb : 1 ≤ bar ∧ bar ≤ 12) (ho : sok o one σ) (ho2 : o ≠ 171) : zwp (fF_begin σ R bar o) (fun _ σ' => zfo oF σ σ' ∧ fok R T bar one σ') := by
  obtain ⟨h1, h2, h3, h4⟩ := ho
  obtain ⟨d1, d2⟩ := sok_oD (p := 162) ⟨h1, h2, h3, h4⟩ (Or.inl rfl)
  have hTl := hT.2.1
  unfold fF_begin
  rw [zwp_bv]
  refine zwp_mono (qL_takeForm zli_162 h1 d1 d2 σ (by rw [h3]; exact h4.sm) 12 (by omega)) (fun r σ1 ⟨f1, l1⟩ => ?_)
  rw [h3] at l1
  obtain ⟨σ2, e2, f2, b2, w2, c2, t2⟩ := qJ_begin (J := 158) σ1 bar (-1) hb (by decide)
  rw [zbv_eq e2, zwp_bv]
  have f1' : zfo oF σ σ1 := f1.mono (fun q h => by unfold oD at h; unfold oF; omega)
  have f2' : zfo oF σ1 σ2 := f2.mono (fun q h => by unfold oO at h; unfold oF; omega)
  have hRF : ∀ j, j < 6 → ¬ oF (R + j) := by intro j hj; have := hR.1; unfold oF; omega
  have hj : jok 158 R T bar σ2 := ⟨hR.2.2, ru_J hR (by omega), TRc_fo (f1'.tr f2') hRF hT, hW, b2, hb.1, hb.2⟩
  have hl : lok 158 162 (lfo one 12) σ2 := ⟨zli_162, by unfold oJ; omega, by unfold oJ; omega, by rw [ln_fo f2 (oO_ne (by omega)) (oO_ne (by omega)), l1], lfo_sm h4 12⟩
  refine zwp_mono (qJ_askLines hj hl 2147483647 (by rw [t2]; omega)) (fun r σ3 ⟨g1, g2⟩ => ?_)
  rw [t2] at g2
  have hb2 := lq_bd hTl (lfo one 12) bar 32 0
  have e3 : zrd σ3 158 6 = lq T (lfo one 12) bar 32 0 := by
    have := g2.2.2.1 (by omega)
    omega
  simp only [zwp_let]
  rw [e3, zwp_some]
  have f3' : zfo oF σ2 σ3 := g1.1.mono (fun q h => by unfold oJ at h; unfold oF; omega)
  have f4 : zfo (oO 157) σ3 (zst σ3 157 8 (lq T (lfo one 12) bar 32 0)) := zfo.rf.st1
  refine ⟨((f1'.tr f2').tr f3').st (by unfold oF; omega), ?_, ?_, ?_, h4⟩
  · have := jok_f hj g1
    obtain ⟨q1, q2, q3, q4, q5, q6, q7⟩ := this
    refine ⟨q1, q2, TRc_fo f4 (by intro j hj; have := hR.1; exact oO_ne (by omega)) q3, q4, ?_, q6, q7⟩
    rw [f4.rd (oO_ne (by omega))]
    exact q5
  · obtain ⟨q1, q2, q3, q4, q5⟩ := lok_f hl g1
    exact ⟨q1, q2, q3, by rw [ln_fo f4 (oO_ne (by omega)) (oO_ne (by omega)), q4], q5⟩
  · rw [zrd_st_eq, zwj (by omega) (by omega)]
theorem qF_priceOf {R : Nat} {T : List Cl} {bar : Int} {one a : Ln} {o f : Nat} (σ : Zm) (hk : fok R T bar one σ) (hR : ru R) (ho : sok o a σ) (hf : f < 900) (most : Int) : zwp (fF_priceOf σ R o (f : Int) most) (fun r σ' => zfo oFp σ σ' ∧ fok R T bar one σ' ∧ cut (zrd σ 157 8) (lq T (lfo a f) bar 32 0 + pq T (lfo one 12) (lfo a f) bar 32 0) most r ∧ zw r = r ∧ ln 32 σ' 165 = lfo a f) := by
  obtain ⟨k1, k2, k3, k4⟩ := hk
  obtain ⟨h1, h2, h3, h4⟩ := ho
  obtain ⟨d1, d2⟩ := sok_oD (p := 165) ⟨h1, h2, h3, h4⟩ (Or.inr (Or.inl rfl))
  have hTl := k1.2.2.1.2.1
  have b1 := lq_bd hTl (lfo one 12) bar 32 0
  have b2 := lq_bd hTl (lfo a f) bar 32 0
  have b3 := pq_bd hTl (lfo one 12) (lfo a f) bar 32 0
  unfold fF_priceOf
  rw [zwp_bv]
  refine zwp_mono (qL_takeForm zli_165 h1 d1 d2 σ (by rw [h3]; exact h4.sm) f hf) (fun r σ1 ⟨f1, l1⟩ => ?_)
  rw [h3] at l1
  have f1' : zfo oFp σ σ1 := f1.mono (fun q h => by unfold oD at h; unfold oFp; omega)
  simp only [zwp_let]
  rw [f1.rd (o := 157) (by unfold oD; omega), zwp_bv]
  have f2 : zfo (oO 158) σ1 (zst σ1 158 6 (zrd σ 157 8)) := zfo.rf.st1
  have f2' : zfo oFp σ1 (zst σ1 158 6 (zrd σ 157 8)) := f2.mono (fun q h => by unfold oO at h; unfold oFp; omega)
  have hRF : ∀ j, j < 6 → ¬ oFp (R + j) := by intro j hj; have := hR.1; unfold oFp; omega
  have hj : jok 158 R T bar (zst σ1 158 6 (zrd σ 157 8)) := by
    obtain ⟨q1, q2, q3, q4, q5, q6, q7⟩ := k1
    refine ⟨q1, q2, TRc_fo (f1'.tr f2') hRF q3, q4, ?_, q6, q7⟩
    rw [zrd_st, if_neg (by omega), f1.rd (by unfold oD; omega)]
    exact q5
  have hl1 : lok 158 162 (lfo one 12) (zst σ1 158 6 (zrd σ 157 8)) := by
    obtain ⟨q1, q2, q3, q4, q5⟩ := k2
    exact ⟨q1, q2, q3, by rw [ln_fo (f1'.tr f2') (by unfold oFp; omega) (by unfold oFp; omega), q4], q5⟩
  have hl2 : lok 158 165 (lfo a f) (zst σ1 158 6 (zrd σ 157 8)) := ⟨zli_165, by unfold oJ; omega, by unfold oJ; omega, by rw [ln_fo f2 (oO_ne (by omega)) (oO_ne (by omega)), l1], lfo_sm h4 f⟩
  have e6 : zrd (zst σ1 158 6 (zrd σ 157 8)) 158 6 = zrd σ 157 8 := by rw [zrd_st_eq]; exact zw_rd _ _ _
  refine zwp_mono (qJ_askLines hj hl2 most (by rw [e6, k3]; omega)) (fun r σ3 ⟨g1, g2⟩ => ?_)
  rw [e6] at g2
  rw [zwp_bv]
  refine zwp_mono (qJ_askPairs (jok_f hj g1) (lok_f hl1 g1) (lok_f hl2 g1) most (by unfold cut at g2; rw [k3] at g2; omega)) (fun r σ4 ⟨g3, g4⟩ => ?_)
  simp only [zwp_let]
  rw [zwp_some]
  have f34 : zfo oFp (zst σ1 158 6 (zrd σ 157 8)) σ4 := (g1.1.tr g3.1).mono (fun q h => by unfold oJ at h; unfold oFp; omega)
  have fall := (f1'.tr f2').tr f34
  refine ⟨fall, ⟨jok_f (jok_f hj g1) g3, lok_f (lok_f hl1 g1) g3, ?_, k4⟩, ?_, zw_rd _ _ _, (lok_f (lok_f hl2 g1) g3).2.2.2.1⟩
  · rw [fall.rd (by unfold oFp; omega), k3]
  · unfold cut at *
    omega
theorem sok_fo {D : Nat → Prop} {o : Nat} {a : Ln} {σ σ1 : Zm} (h : sok o a σ) (hf : zfo D σ σ1) (h1 : ¬ D (o + 1)) (h2 : ¬ D (o + 2)) : sok o a σ1 := ⟨h.1, h.2.1, by rw [ln_fo hf h1 h2]; exact h.2.2.1, h.2.2.2⟩
/-- the least of the first n, and the first that has it -/
def bst (P : Nat → Int) : Nat → Int × Int
  | 0 => (2147483647, 0)
  | n + 1 => if P n < (bst P n).1 then (P n, (n : Int)) else bst P n
theorem bst_le (P : Nat → Int) : ∀ (n k : Nat), k < n → (bst P n).1 ≤ P k
  | n + 1, k, h => by
    show (if P n < (bst P n).1 then (P n, (n : Int)) else bst P n).1 ≤ P k
    by_cases c : k = n
    · subst c
      split
      · exact Int.le_refl _
      · omega
    · have := bst_le P n k (by omega)
      split
      · simp only []; omega
      · exact this
theorem bst_bd (P : Nat → Int) (h0 : ∀ k, 0 ≤ P k) : ∀ (n : Nat), 0 ≤ (bst P n).1 ∧ (bst P n).1 ≤ 2147483647 ∧ 0 ≤ (bst P n).2 ∧ (bst P n).2 ≤ n
  | 0 => by simp [bst]
  | n + 1 => by
    have := bst_bd P h0 n
    have := h0 n
    unfold bst
    split
    · simp only []; omega
    · omega
theorem bst_st (P : Nat → Int) {n : Nat} : ∀ (m : Nat), (∀ k, (bst P n).1 ≤ P k) → n ≤ m → bst P m = bst P n
  | 0, h, hm => by rw [show n = 0 by omega]
  | m + 1, h, hm => by
    by_cases c : n = m + 1
    · rw [c]
    · have e := bst_st P m h (by omega)
      show (if P m < (bst P m).1 then (P m, (m : Int)) else bst P m) = _
      rw [e, if_neg (by have := h m; omega)]
theorem fok_fo {D : Nat → Prop} {R : Nat} {T : List Cl} {bar : Int} {one : Ln} {σ σ1 : Zm} (h : fok R T bar one σ) (hR : ru R) (hf : zfo D σ σ1) (h8 : zrd σ1 157 8 = zrd σ 157 8) (hD : ∀ q, D q → q = 157 ∨ (163 < q + 0 ∧ q ≠ 164 ∧ q < 225)) : fok R T bar one σ1 := by
  obtain ⟨⟨q1, q2, q3, q4, q5, q6, q7⟩, ⟨l1, l2, l3, l4, l5⟩, k3, k4⟩ := h
  refine ⟨⟨q1, q2, TRc_fo hf (fun j hj z => by have := hD _ z; have := hR.1; omega) q3, q4, ?_, q6, q7⟩, ⟨l1, l2, l3, ?_, l5⟩, by rw [h8]; exact k3, k4⟩
  · rw [hf.rd (fun z => by have := hD _ z; omega)]; exact q5
  · rw [ln_fo hf (fun z => by have := hD _ z; omega) (fun z => by have := hD _ z; omega)]; exact l4
theorem pF_findCheapest_14 {R : Nat} {T : List Cl} {bar : Int} {one a : Ln} {o : Nat} (hR : ru R) (σ0 : Zm) (ho : sok o a σ0) (enough : Int) : ∀ (d m i : Nat) (σ : Zm), d < m → i + d = 900 → zfo oF σ0 σ → zfo (fun q => oFp q ∨ q = 157) σ0 σ → fok R T bar one σ → zrd σ 157 9 = (bst (fpr T one a bar) i).1 → zrd σ 157 10 = (bst (fpr T one a bar) i).2 → zwp (fF_findCheapest_14 m R o enough (i : Int) σ) (fun _ σ' => zfo (fun q => oFp q ∨ q = 157) σ0 σ' ∧ fok R T bar one σ' ∧ ∃ i, i ≤ 900 ∧ zrd σ' 157 9 = (bst (fpr T one a bar) i).1 ∧ zrd σ' 157 10 = (bst (fpr T one a bar) i).2 ∧ (i = 900 ∨ (bst (fpr T one a bar) i).1 ≤ max 0 enough))
  | 0, m + 1, i, σ, _, hi, hf0, hf, hk, h9, h10 => by
    rw [fF_findCheapest_14]
    simp only [zwp_let]
    rw [if_pos (by omega), zwp_some]
    exact ⟨hf, hk, i, by omega, h9, h10, Or.inl (by omega)⟩
  | d + 1, m + 1, i, σ, hm, hi, hf0, hf, hk, h9, h10 => by
    have hTl := hk.1.2.2.1.2.1
    have hbb := bst_bd (fpr T one a bar) (fun k => (fpr_bd hTl one a bar k).1) i
    have hpb := fpr_bd hTl one a bar i
    rw [fF_findCheapest_14]
    simp only [zwp_let]
    rw [if_neg (by omega), zwp_let, zwp_let, h9]
    by_cases c : (bst (fpr T one a bar) i).1 ≤ max 0 enough
    · rw [if_pos c, zwp_some]
      exact ⟨hf, hk, i, by omega, h9, h10, Or.inr c⟩
    · rw [if_neg c, zwp_let, zwp_bi, zwj (a := (bst (fpr T one a bar) i).1 - 1) (by omega) (by omega), show zw ((i : Int) + 1) = ((i + 1 : Nat) : Int) from zwj (by omega) (by omega)]
      have ho' : sok o a σ := sok_fo ho hf (by have := ho.2.1; unfold oFp; omega) (by have := ho.2.1; unfold oFp; omega)
      refine zwp_mono (qF_priceOf σ hk hR ho' (by omega) _) (fun r σ1 ⟨g1, g2, g3, g4, g5⟩ => ?_)
      have g1' : zfo (fun q => oFp q ∨ q = 157) σ σ1 := g1.mono (fun q h => Or.inl h)
      have g1'' : zfo oF σ σ1 := g1.mono (fun q h => by unfold oFp at h; unfold oF; omega)
      rw [g4, zwp_let]
      rw [g1.rd (o := 157) (by unfold oFp; omega), h9]
      rw [hk.2.2.1] at g3
      have ecut : cut 0 (fpr T one a bar i) ((bst (fpr T one a bar) i).1 - 1) r ∨ True := Or.inr trivial
      have hP : fpr T one a bar i = lq T (lfo one 12) bar 32 0 + (lq T (lfo a i) bar 32 0 + pq T (lfo one 12) (lfo a i) bar 32 0) := by unfold fpr; omega
      have hb : bst (fpr T one a bar) (i + 1) = if fpr T one a bar i < (bst (fpr T one a bar) i).1 then (fpr T one a bar i, (i : Int)) else bst (fpr T one a bar) i := rfl
      by_cases c2 : (bst (fpr T one a bar) i).1 ≤ r
      · rw [if_pos c2]
        have c3 : ¬ fpr T one a bar i < (bst (fpr T one a bar) i).1 := by unfold cut at g3; omega
        rw [if_neg c3] at hb
        refine pF_findCheapest_14 hR σ0 ho enough d m (i + 1) σ1 (by omega) (by omega) (hf0.tr g1'') (hf.tr g1') g2 ?_ ?_
        · rw [hb, g1.rd (by unfold oFp; omega), h9]
        · rw [hb, g1.rd (by unfold oFp; omega), h10]
      · rw [if_neg c2]
        have c3 : fpr T one a bar i < (bst (fpr T one a bar) i).1 ∧ r = fpr T one a bar i := by unfold cut at g3; omega
        rw [if_pos c3.1] at hb
        simp only [zwp_let]
        refine pF_findCheapest_14 hR σ0 ho enough d m (i + 1) _ (by omega) (by omega) (((hf0.tr g1'').st (by unfold oF; omega)).st (by unfold oF; omega)) (((hf.tr g1').st (Or.inr rfl)).st (Or.inr rfl)) ?_ ?_ ?_
        · refine fok_fo (D := oO 157) g2 hR zfo.rf.st1.st1 ?_ (fun q h => Or.inl h)
          simp (disch := omega) only [zrd_st, ifn]
        · rw [hb]
          simp (disch := omega) only [zrd_st, ifn, ifp]
          simp only [and_self, if_true, reduceIte]
          rw [g4, c3.2]
        · rw [hb]
          simp only [zrd_st, and_self, if_true, reduceIte]
          exact zwj (by omega) (by omega)
theorem qF_findCheapest {R : Nat} {T : List Cl} {bar : Int} {one a : Ln} {o : Nat} (hR : ru R) (σ : Zm) (ho : sok o a σ) (enough : Int) (hk : fok R T bar one σ) : zwp (fF_findCheapest σ R o enough) (fun _ σ' => zfo (fun q => oFp q ∨ q = 157) σ σ' ∧ fok R T bar one σ' ∧ ∃ i, i ≤ 900 ∧ zrd σ' 157 9 = (bst (fpr T one a bar) i).1 ∧ zrd σ' 157 10 = (bst (fpr T one a bar) i).2 ∧ (i = 900 ∨ (bst (fpr T one a bar) i).1 ≤ max 0 enough)) := by
  unfold fF_findCheapest
  simp only [zwp_let]
  have h1 : zfo (oO 157) σ (zst (zst σ 157 9 2147483647) 157 10 0) := zfo.rf.st1.st1
  refine pF_findCheapest_14 hR σ ho enough 900 5000 0 _ (by omega) (by omega) (h1.mono (fun q h => by unfold oO at h; unfold oF; omega)) (h1.mono (fun q h => Or.inr h)) ?_ ?_ ?_
  · refine fok_fo (D := oO 157) hk hR h1 ?_ (fun q h => Or.inl h)
    simp (disch := omega) only [zrd_st, ifn]
  · simp [zrd_st, bst]; decide
  · simp [zrd_st, bst]; decide

/-! MY OWN: the class's Maker: solve -/
def f1 (j x : Nat) : Nat := if 0 < j then x else 0
/-- the table of step j: how far each cell has come -/
def LSg (F : Nat → Nat → Nat → Int) (j mb ma : Nat) (cn : Nat → Nat → Nat) (σ : Zm) : Prop := ∀ be ah, be < mb → ah < ma → zrd σ (184 + j) (15 * be + ah) = (bst (F be ah) (cn be ah)).1 ∧ (1 ≤ cn be ah → zrd σ (191 + j) (15 * be + ah) = (bst (F be ah) (cn be ah)).2)
def inc (cn : Nat → Nat → Nat) (be ah : Nat) : Nat → Nat → Nat := fun b a => if b = be ∧ a = ah then cn b a + 1 else cn b a
theorem LSg_fo {D : Nat → Prop} {F : Nat → Nat → Nat → Int} {j mb ma : Nat} {cn : Nat → Nat → Nat} {σ σ1 : Zm} (h : LSg F j mb ma cn σ) (hf : zfo D σ σ1) (h1 : ¬ D (184 + j)) (h2 : ¬ D (191 + j)) : LSg F j mb ma cn σ1 := by
  intro be ah hb ha
  rw [hf.rd h1, hf.rd h2]
  exact h be ah hb ha
theorem LSg_cg {F : Nat → Nat → Nat → Int} {j mb ma : Nat} {cn cn' : Nat → Nat → Nat} {σ : Zm} (h : LSg F j mb ma cn σ) (he : ∀ be ah, be < mb → ah < ma → cn be ah = cn' be ah) : LSg F j mb ma cn' σ := by
  intro be ah hb ha
  rw [← he be ah hb ha]
  exact h be ah hb ha
/-- the tables behind j stand -/
def later (T : List Cl) (W : Nat → Ln) (vv e : Nat) (bar lo : Int) (many n j : Nat) (σ : Zm) : Prop := ∀ i, j ≤ i → i ≤ n → ∀ be ah, be < (if 1 < i then many else 1) → ah < (if 0 < i then many else 1) → zrd σ (184 + i) (15 * be + ah) = hmn (cst T W vv e bar) lo many (n - i) i (lo + (be : Int)) (lo + (ah : Int)) ∧ (i < n → zrd σ (191 + i) (15 * be + ah) = (bst (hmf (cst T W vv e bar) lo many (n - i - 1) i (lo + (be : Int)) (lo + (ah : Int))) many).2)
theorem later_fo {T : List Cl} {W : Nat → Ln} {vv e : Nat} {bar lo : Int} {many n j : Nat} {D : Nat → Prop} {σ σ1 : Zm} (h : later T W vv e bar lo many n j σ) (hf : zfo D σ σ1) (hD : ∀ i, j ≤ i → i ≤ n → ¬ D (184 + i) ∧ ¬ D (191 + i)) : later T W vv e bar lo many n j σ1 := by
  intro i h1 h2 be ah hb ha
  rw [hf.rd (hD i h1 h2).1, hf.rd (hD i h1 h2).2]
  exact h i h1 h2 be ah hb ha
def oKj (vv j q : Nat) : Prop := q = 184 + j ∨ q = 191 + j ∨ (178 ≤ q ∧ q ≤ 181) ∨ q = 198 + 3 * vv + 1 ∨ q = 198 + 3 * vv + 2
/-- one cell's try -/
theorem pK_try {R : Nat} {T : List Cl} {bar : Int} {W : Nat → Ln} {vv e n : Nat} {lo : Int} {many : Nat} (hc : KC R W vv e n lo many) (F : Nat → Nat → Nat → Int) (hF : ∀ b a x, 0 ≤ F b a x ∧ F b a x ≤ 1000000) (j : Nat) (hj : j < n) (mb ma : Nat) (hmb : mb ≤ 15) (hma : ma ≤ 15) (cn : Nat → Nat → Nat) (be ah ch : Nat) (hbe : be < mb) (hah : ah < ma) (hch : ch < 15) (hcn : cn be ah = ch) (σ : Zm) (hk : KI R T bar W vv e n lo many σ) (h6 : zrd σ 178 6 = F be ah ch) (hL : LSg F j mb ma cn σ) (o3 : Nat) (x4 x7 : Int) (P : Int → Zm → Prop) (R0 : Nat → Int → Nat → Int → Int → Int → Int → Int → Zm → Zr) (K : Nat → Int → Nat → Int → Int → Int → Zm → Zr) (hR0 : ∀ σ', zfo (fun q => q = 184 + j ∨ q = 191 + j) σ σ' → KI R T bar W vv e n lo many σ' → LSg F j mb ma (inc cn be ah) σ' → zwp (R0 R (j : Int) o3 x4 (ah : Int) (ch : Int) x7 ((be + 1 : Nat) : Int) σ') P) : zwp (fK_solveNote_170 R0 K R (j : Int) o3 x4 (ah : Int) (ch : Int) x7 (be : Int) σ) P := by
  obtain ⟨c1, c2, c3, c4, c5, c6, c7, c8, c9, c10, c11, c12⟩ := hc
  obtain ⟨z1, z2, z3, z4⟩ := zK_l (j := j) (by omega)
  have hF1 := hF be ah ch
  have hbb := bst_bd (F be ah) (fun k => (hF be ah k).1) ch
  obtain ⟨v1, v2⟩ := hL be ah hbe hah
  rw [hcn] at v1 v2
  have est : bst (F be ah) (ch + 1) = if F be ah ch < (bst (F be ah) ch).1 then (F be ah ch, (ch : Int)) else bst (F be ah) ch := rfl
  unfold fK_solveNote_170
  simp only [zwp_let]
  rw [show zw ((be : Int) * 15 + (ah : Int)) = ((15 * be + ah : Nat) : Int) by rw [zwj (by omega) (by omega)]; omega, h6, zckj (by omega) (by omega), zckj (by omega) (by omega), Int.toNat_natCast, Int.toNat_natCast, z1, zwp_let, v1, show zw ((be : Int) + 1) = ((be + 1 : Nat) : Int) from zwj (by omega) (by omega)]
  by_cases c : (bst (F be ah) ch).1 ≤ F be ah ch
  · rw [if_pos c]
    rw [if_neg (by omega)] at est
    refine hR0 σ zfo.rf hk (fun b a hb ha => ?_)
    unfold inc
    by_cases q : b = be ∧ a = ah
    · rw [if_pos q, q.1, q.2, hcn, est, v1]
      refine ⟨rfl, fun _ => v2 ?_⟩
      by_cases c0 : ch = 0
      · rw [c0] at c hF1
        have c' : (2147483647 : Int) ≤ F be ah 0 := c
        omega
      · omega
    · rw [if_neg q]
      exact hL b a hb ha
  · rw [if_neg c]
    rw [if_pos (by omega)] at est
    rw [zckj (by omega) (by omega), zwp_let, zckj (by omega) (by omega)]
    refine zwp_st (fun σ1 g1 w1 => ?_)
    rw [zckj (by omega) (by omega), zckj (by omega) (by omega), z3]
    refine zwp_st (fun σ2 g2 w2 => ?_)
    have gf : zfo (fun q => q = 184 + j ∨ q = 191 + j) σ σ2 := (g1.mono (fun q h => Or.inl h)).tr (g2.mono (fun q h => Or.inr h))
    refine hR0 σ2 gf ?_ (fun b a hb ha => ?_)
    · obtain ⟨⟨q1, q2, q3, q4, q5, q6, q7⟩, ⟨k2, k3, k4, k5, k6⟩, k7, k8, k9, k10⟩ := hk
      have el : ∀ i, ln 32 σ2 (198 + 3 * i) = ln 32 σ (198 + 3 * i) := fun i => ln_fo gf (by omega) (by omega)
      refine ⟨⟨q1, q2, TRc_fo gf (fun i hi => by have := c1.1; omega) q3, q4, by rw [gf.rd (by omega)]; exact q5, q6, q7⟩, ?_, fun i hi hne => ?_, fun x hx => ?_, fun x hx => ?_, ?_⟩
      · rw [gf.rd (by omega), gf.rd (by omega), gf.rd (by omega), gf.rd (by omega), gf.rd (by omega)]
        exact ⟨k2, k3, k4, k5, k6⟩
      · rw [el]; exact k7 i hi hne
      · rw [el]; exact k8 x hx
      · rw [el]; exact k9 x hx
      · rw [el]; exact k10
    · unfold inc
      rw [g2.rd (oO_ne (by omega)), w1, w2, g1.rd (oO_ne (by omega))]
      obtain ⟨u1, u2⟩ := hL b a hb ha
      by_cases q : b = be ∧ a = ah
      · rw [if_pos q, q.1, q.2, if_pos rfl, if_pos rfl, hcn, est]
        exact ⟨zwj (by omega) (by omega), fun _ => zwj (by omega) (by omega)⟩
      · rw [if_neg q, if_neg (by omega), if_neg (by omega)]
        exact ⟨u1, u2⟩
/-- what a cell costs with the notes sung -/
def sung (W : Nat → Ln) (vv e j : Nat) (lo : Int) (be ah ch : Nat) (l : Ln) : Prop := (∀ x, x < e → l x = W vv x) ∧ l (e + j) = (1, lo + (ch : Int)) ∧ (1 ≤ j → l (e + j - 1) = (1, lo + (ah : Int))) ∧ (2 ≤ j → l (e + j - 2) = (1, lo + (be : Int)))
theorem sung_l {T : List Cl} {bar : Int} {W : Nat → Ln} {vv e j : Nat} {lo : Int} {be ah ch : Nat} {l : Ln} (h : sung W vv e j lo be ah ch l) : lbk T l (e + j) bar = lbk T (nl (W vv) e j (lo + (be : Int)) (lo + (ah : Int)) (lo + (ch : Int))) (e + j) bar := by
  obtain ⟨h1, h2, h3, h4⟩ := h
  by_cases c : 2 ≤ j
  · obtain ⟨i, rfl⟩ : ∃ i, j = i + 2 := ⟨j - 2, by omega⟩
    have h3' := h3 (by omega)
    have h4' := h4 (by omega)
    rw [show e + (i + 2) - 1 = e + i + 1 by omega] at h3'
    rw [show e + (i + 2) - 2 = e + i by omega] at h4'
    rw [show e + (i + 2) = (e + i) + 2 by omega] at h2 ⊢
    refine lbk_loc2 ?_ ?_ ?_ (by rw [h3']) (by rw [h4'])
    · rw [h2]; unfold nl; rw [if_pos (by omega)]
    · rw [h3']; unfold nl; rw [if_neg (by omega), if_pos (by omega)]
    · rw [h4']; unfold nl; rw [if_neg (by omega), if_neg (by omega), if_pos (by omega)]
  · refine lbk_loc (fun x hx => ?_)
    unfold nl
    by_cases c1 : x = e + j
    · rw [if_pos c1, c1, h2]
    · rw [if_neg c1]
      by_cases c2 : 1 ≤ j ∧ x + 1 = e + j
      · rw [if_pos c2, ← h3 c2.1]
        congr 1
        omega
      · rw [if_neg c2, if_neg (by omega), if_pos (by omega), h1 x (by omega)]
theorem sung_p {T : List Cl} {bar : Int} {W : Nat → Ln} {vv e j : Nat} {lo : Int} {ah ch : Nat} {l : Ln} (he : 1 ≤ e) (h1 : ∀ x, x < e → l x = W vv x) (h2 : l (e + j) = (1, lo + (ch : Int))) (h3 : 1 ≤ j → l (e + j - 1) = (1, lo + (ah : Int))) (p2 : Int) : ∀ o, pps T W vv l (e + j) bar o = pps T W vv (nl (W vv) e j p2 (lo + (ah : Int)) (lo + (ch : Int))) (e + j) bar o
  | 0 => rfl
  | o + 1 => by
    unfold pps
    rw [sung_p he h1 h2 h3 p2 o]
    congr 1
    unfold pp1
    by_cases c : o = vv
    · rw [if_pos c, if_pos c]
    · rw [if_neg c, if_neg c]
      have e0 : l (e + j) = nl (W vv) e j p2 (lo + (ah : Int)) (lo + (ch : Int)) (e + j) := by
        rw [h2]; unfold nl; rw [if_pos rfl]
      have e1 : l (e + j - 1) = nl (W vv) e j p2 (lo + (ah : Int)) (lo + (ch : Int)) (e + j - 1) := by
        unfold nl
        rw [if_neg (by omega)]
        by_cases c2 : 1 ≤ j
        · rw [if_pos (by omega), h3 c2]
        · rw [if_neg (by omega), if_neg (by omega), if_pos (by omega), h1 _ (by omega)]
      have ev : ∀ i t, (l t = nl (W vv) e j p2 (lo + (ah : Int)) (lo + (ch : Int)) t) → vvs W vv l i t = vvs W vv (nl (W vv) e j p2 (lo + (ah : Int)) (lo + (ch : Int))) i t := by
        intro i t ht
        unfold vvs
        split
        · exact ht
        · rfl
      rw [pbk_loc (ev _ _ e0) (ev _ _ e0) (fun _ => ev _ _ e1) (fun _ => ev _ _ e1)]
theorem pK_115 {R : Nat} {T : List Cl} {bar : Int} {W : Nat → Ln} {vv e n : Nat} {lo : Int} {many : Nat} (hc : KC R W vv e n lo many) (j : Nat) (hj : j < n) (mb ma : Nat) (hmb : mb = if 1 < j then many else 1) (hma : ma = if 0 < j then many else 1) (H : Nat → Nat → Int) (hH : ∀ b a, 0 ≤ H b a ∧ H b a ≤ 500000) (ah ch : Nat) (hah : ah < ma) (hch : ch < many) (later0 : Int) (hlat : later0 = pps T W vv (nl (W vv) e j 0 (lo + (ah : Int)) (lo + (ch : Int))) (e + j) bar 4 + H (f1 j ah) ch) (hT : T.length ≤ 10) (cn0 : Nat → Nat → Nat) (hcn0 : ∀ b, b < mb → cn0 b ah = ch) (σ0 : Zm) (P : Int → Zm → Prop) (K : Nat → Int → Nat → Int → Int → Int → Zm → Zr)
  (hK : ∀ σ', zfo (oKj vv j) σ0 σ' → KI R T bar W vv e n lo many σ' → (1 ≤ j → ln 32 σ' (198 + 3 * vv) (e + j - 1) = (1, lo + (ah : Int))) → LSg (fun b a x => cst T W vv e bar j (lo + (b : Int)) (lo + (a : Int)) (lo + (x : Int)) + H (f1 j a) x) j mb ma (fun b a => if a = ah then cn0 b a + 1 else cn0 b a) σ' → zwp (K R (j : Int) (198 + 3 * vv) ((e + j : Nat) : Int) (ah : Int) (ch : Int) σ') P) :
    ∀ (d m be : Nat) (σ : Zm), d < m → be + d = mb → zfo (oKj vv j) σ0 σ → KI R T bar W vv e n lo many σ → ln 32 σ (198 + 3 * vv) (e + j) = (1, lo + (ch : Int)) → (1 ≤ j → ln 32 σ (198 + 3 * vv) (e + j - 1) = (1, lo + (ah : Int))) → LSg (fun b a x => cst T W vv e bar j (lo + (b : Int)) (lo + (a : Int)) (lo + (x : Int)) + H (f1 j a) x) j mb ma (fun b a => if b < be ∧ a = ah then cn0 b a + 1 else cn0 b a) σ → zwp (fK_solveNote_115 m R (j : Int) (198 + 3 * vv) ((e + j : Nat) : Int) (ah : Int) (ch : Int) later0 (be : Int) σ K) P
  | 0, m + 1, be, σ, _, hbe, hf, hk, hl0, hl1, hL => by
    have hc' := hc
    obtain ⟨c1, c2, c3, c4, c5, c6, c7, c8, c9, c10, c11, c12⟩ := hc
    have fin := hK σ hf hk hl1 (LSg_cg hL (fun b a hb ha => ite_cg ⟨fun q => q.2, fun q => ⟨by omega, q⟩⟩))
    rw [fK_solveNote_115]
    simp only [zwp_let]
    by_cases c : j ≤ 1
    · rw [if_neg (by omega)] at hmb
      rw [if_pos (by omega), if_pos (by omega)]
      exact fin
    · rw [if_pos (by omega)] at hmb
      rw [if_neg (by omega), zwp_let, hk.2.1.2.2.2.2, if_pos (by omega)]
      exact fin
  | d + 1, m + 1, be, σ, hm, hbe, hf, hk, hl0, hl1, hL => by
    have hc' := hc
    obtain ⟨c1, c2, c3, c4, c5, c6, c7, c8, c9, c10, c11, c12⟩ := hc
    have hmb15 : mb ≤ 15 := by rw [hmb]; split <;> omega
    have hma15 : ma ≤ 15 := by rw [hma]; split <;> omega
    have go133 : zwp (fK_solveNote_133 (fun o1 x2 o3 x4 x5 x6 x7 x8 σ => fK_solveNote_115 m o1 x2 o3 x4 x5 x6 x7 x8 σ K) K R (j : Int) (198 + 3 * vv) ((e + j : Nat) : Int) (ah : Int) (ch : Int) later0 (be : Int) σ) P := by
      -- behind the singing of j - 2
      have step : ∀ σ1, zfo (oKl vv) σ σ1 → KI R T bar W vv e n lo many σ1 → sung W vv e j lo be ah ch (ln 32 σ1 (198 + 3 * vv)) → zwp (zlet (zst σ1 178 6 later0) fun σ16 => zbi (fU_has σ16 R 1) fun v18 σ17 => if v18 = 0 then fK_solveNote_170 (fun o1 x2 o3 x4 x5 x6 x7 x8 σ => fK_solveNote_115 m o1 x2 o3 x4 x5 x6 x7 x8 σ K) K R (j : Int) (198 + 3 * vv) ((e + j : Nat) : Int) (ah : Int) (ch : Int) later0 (be : Int) σ17 else zbv (fJ_askLine σ17 178 R (198 + 3 * vv) ((e + j : Nat) : Int)) fun σ28 => fK_solveNote_170 (fun o1 x2 o3 x4 x5 x6 x7 x8 σ => fK_solveNote_115 m o1 x2 o3 x4 x5 x6 x7 x8 σ K) K R (j : Int) (198 + 3 * vv) ((e + j : Nat) : Int) (ah : Int) (ch : Int) later0 (be : Int) σ28) P := by
        intro σ1 g1 k1 s1
        have hb4 := pps_bd hT W vv (nl (W vv) e j 0 (lo + (ah : Int)) (lo + (ch : Int))) (e + j) bar 4
        have hbl := lbk_bd hT (nl (W vv) e j (lo + (be : Int)) (lo + (ah : Int)) (lo + (ch : Int))) (e + j) bar
        have hH1 := hH (f1 j ah) ch
        have hw : zw later0 = later0 := zwj (by omega) (by omega)
        refine zwp_st (fun σ2 g2 w2 => ?_)
        have g2' : zfo (oJ 178) σ1 σ2 := g2.mono (fun q h => Or.inl h)
        have k2 := KI_j k1 g2' c1 (by rw [w2, if_neg (by omega)])
        have l2 : ln 32 σ2 (198 + 3 * vv) = ln 32 σ1 (198 + 3 * vv) := ln_fo g2' (by unfold oJ; omega) (by unfold oJ; omega)
        have ehs : zw (hs 1 T) = hs 1 T := by rcases hs_01 1 T with q | q <;> rw [q] <;> decide
        rw [zwp_bi, qU_has 1 σ2 T k2.1.2.2.1, zwp_some, ehs]
        have lp : pps T W vv (nl (W vv) e j (lo + (be : Int)) (lo + (ah : Int)) (lo + (ch : Int))) (e + j) bar 4 = pps T W vv (nl (W vv) e j 0 (lo + (ah : Int)) (lo + (ch : Int))) (e + j) bar 4 := by
          rw [← sung_p c4 s1.1 s1.2.1 s1.2.2.1 (lo + (be : Int)) 4, ← sung_p c4 s1.1 s1.2.1 s1.2.2.1 0 4]
        have eF : later0 + bsum (lbk T (ln 32 σ1 (198 + 3 * vv)) (e + j) bar) = cst T W vv e bar j (lo + (be : Int)) (lo + (ah : Int)) (lo + (ch : Int)) + H (f1 j ah) ch := by
          rw [hlat, sung_l s1]
          unfold cst
          rw [lp]
          omega
        have fin : ∀ σ3, zfo (oJ 178) σ2 σ3 → KI R T bar W vv e n lo many σ3 → zrd σ3 178 6 = later0 + bsum (lbk T (ln 32 σ1 (198 + 3 * vv)) (e + j) bar) → zwp (fK_solveNote_170 (fun o1 x2 o3 x4 x5 x6 x7 x8 σ => fK_solveNote_115 m o1 x2 o3 x4 x5 x6 x7 x8 σ K) K R (j : Int) (198 + 3 * vv) ((e + j : Nat) : Int) (ah : Int) (ch : Int) later0 (be : Int) σ3) P := by
          intro σ3 g3 k3 w3
          have l3 : ln 32 σ3 (198 + 3 * vv) = ln 32 σ1 (198 + 3 * vv) := (ln_fo g3 (by unfold oJ; omega) (by unfold oJ; omega)).trans l2
          have gall : zfo (fun q => oKl vv q ∨ oJ 178 q) σ σ3 := (g1.mono (fun q h => Or.inl h)).tr ((g2'.mono (fun q h => Or.inr h)).tr (g3.mono (fun q h => Or.inr h)))
          refine pK_try hc' (fun b a x => cst T W vv e bar j (lo + (b : Int)) (lo + (a : Int)) (lo + (x : Int)) + H (f1 j a) x) (fun b a x => ?_) j hj mb ma hmb15 hma15 (fun b a => if b < be ∧ a = ah then cn0 b a + 1 else cn0 b a) be ah ch (by omega) hah (by omega) ?_ σ3 k3 ?_ (LSg_fo hL gall (by unfold oKl oJ; omega) (by unfold oKl oJ; omega)) (198 + 3 * vv) _ later0 P _ K (fun σ4 g4 k4 L4 => ?_)
          · have q1 := cst_bd hT W vv e bar j (lo + (b : Int)) (lo + (a : Int)) (lo + (x : Int))
            have q2 := hH (f1 j a) x
            omega
          · rw [if_neg (by omega)]; exact hcn0 be (by omega)
          · rw [w3, eF]
          · have l4 : ln 32 σ4 (198 + 3 * vv) = ln 32 σ1 (198 + 3 * vv) := (ln_fo g4 (by omega) (by omega)).trans l3
            refine pK_115 hc' j hj mb ma hmb hma H hH ah ch hah hch later0 hlat hT cn0 hcn0 σ0 P K hK d m (be + 1) σ4 (by omega) (by omega) ((hf.tr (gall.mono (fun q h => ?_))).tr (g4.mono (fun q h => ?_))) k4 (by rw [l4]; exact s1.2.1) (fun h => by rw [l4]; exact s1.2.2.1 h) (LSg_cg L4 (fun b a hb ha => ?_))
            · unfold oKl oJ at h; unfold oKj; omega
            · unfold oKj; omega
            · unfold inc
              dsimp only
              grind
        by_cases ch0 : hs 1 T = 0
        · rw [if_pos ch0]
          refine fin σ2 zfo.rf k2 ?_
          have : bsum (lbk T (ln 32 σ1 (198 + 3 * vv)) (e + j) bar) = 0 := by
            unfold lbk
            split
            · rw [brk_hs T 0 ch0]; rfl
            · rfl
          rw [this, w2, if_pos rfl, hw]
          omega
        · rw [if_neg ch0, zwp_bv]
          obtain ⟨a1, a2, a3, a4, a5⟩ := KI_lok hc' k2 c3
          refine zwp_mono (qJ_askLine k2.1 a5 (t := e + j) (by omega) a1 (fun q => a2 (Or.inr (Or.inl q))) (fun q => a3 (Or.inr (Or.inl q))) a4) (fun r σ3 ⟨h1, h2, h3, h4⟩ => ?_)
          refine fin σ3 h1 (KI_j k2 h1 c1 (h2 3 (by decide) (by decide))) ?_
          have ev : vvs W vv (ln 32 σ2 (198 + 3 * vv)) vv = ln 32 σ1 (198 + 3 * vv) := by unfold vvs; rw [if_pos rfl, l2]
          rw [h3, ev, w2, if_pos rfl, hw]
          have hbl2 := lbk_bd hT (ln 32 σ1 (198 + 3 * vv)) (e + j) bar
          exact zwj (by omega) (by omega)
      unfold fK_solveNote_133
      by_cases c2 : 2 ≤ j
      · have hmbm : mb = many := by rw [hmb, if_pos (by omega)]
        rw [show zw ((j : Int) - 2) = ((j - 2 : Nat) : Int) by rw [zwj (by omega) (by omega)]; omega, zwp_bv]
        refine zwp_mono (qK_singAt hc' hk (j - 2) be (by omega) (by omega)) (fun r σ1 ⟨g1, k1, v1⟩ => step σ1 g1 k1 ⟨fun x hx => k1.2.2.2.1 x hx, ?_, fun h => ?_, fun h => ?_⟩)
        · rw [v1, if_neg (by omega)]; exact hl0
        · rw [v1, if_neg (by omega)]; exact hl1 h
        · rw [v1, if_pos (by omega)]
      · have e2 : fK_singAt σ (zw ((j : Int) - 2)) (be : Int) = some (0, σ) := by
          unfold fK_singAt
          rw [zwj (by omega) (by omega), if_pos (by omega)]
        rw [zbv_eq e2]
        exact step σ zfo.rf hk ⟨fun x hx => hk.2.2.2.1 x hx, hl0, hl1, fun h => by omega⟩
    rw [fK_solveNote_115]
    simp only [zwp_let]
    by_cases c : j ≤ 1
    · rw [if_neg (by omega)] at hmb
      rw [if_pos (by omega), if_neg (by omega)]
      exact go133
    · rw [if_pos (by omega)] at hmb
      rw [if_neg (by omega), zwp_let, hk.2.1.2.2.2.2, if_neg (by omega)]
      exact go133

theorem pK_61 {R : Nat} {T : List Cl} {bar : Int} {W : Nat → Ln} {vv e n : Nat} {lo : Int} {many : Nat} (hc : KC R W vv e n lo many) (j : Nat) (hj : j < n) (mb ma : Nat) (hmb : mb = if 1 < j then many else 1) (hma : ma = if 0 < j then many else 1) (hT : T.length ≤ 10) (ah : Nat) (hah : ah < ma) (cn0 : Nat → Nat → Nat) (hcn0 : ∀ b, b < mb → cn0 b ah = 0) (σ0 : Zm) (P : Int → Zm → Prop) (K : Nat → Int → Nat → Int → Int → Zm → Zr)
  (hK : ∀ σ', zfo (oKj vv j) σ0 σ' → KI R T bar W vv e n lo many σ' → later T W vv e bar lo many n (j + 1) σ' → LSg (fun b a => hmf (cst T W vv e bar) lo many (n - (j + 1)) j (lo + (b : Int)) (lo + (a : Int))) j mb ma (fun b a => if a = ah then many else cn0 b a) σ' → zwp (K R (j : Int) (198 + 3 * vv) ((e + j : Nat) : Int) (ah : Int) σ') P) :
    ∀ (d m ch : Nat) (σ : Zm), d < m → ch + d = many → zfo (oKj vv j) σ0 σ → KI R T bar W vv e n lo many σ → later T W vv e bar lo many n (j + 1) σ → (1 ≤ j → ln 32 σ (198 + 3 * vv) (e + j - 1) = (1, lo + (ah : Int))) → LSg (fun b a => hmf (cst T W vv e bar) lo many (n - (j + 1)) j (lo + (b : Int)) (lo + (a : Int))) j mb ma (fun b a => if a = ah then ch else cn0 b a) σ → zwp (fK_solveNote_61 m R (j : Int) (198 + 3 * vv) ((e + j : Nat) : Int) (ah : Int) (ch : Int) σ K) P
  | 0, m + 1, ch, σ, _, hch, hf, hk, hlt, hl1, hL => by
    rw [fK_solveNote_61]
    simp only [zwp_let]
    rw [hk.2.1.2.2.2.2, if_pos (by omega)]
    have : ch = many := by omega
    subst this
    exact hK σ hf hk hlt hL
  | d + 1, m + 1, ch, σ, hm, hch, hf, hk, hlt, hl1, hL => by
    have hc' := hc
    obtain ⟨c1, c2, c3, c4, c5, c6, c7, c8, c9, c10, c11, c12⟩ := hc
    have ez : zw ((ch : Int) + 1) = ((ch + 1 : Nat) : Int) := zwj (by omega) (by omega)
    rw [fK_solveNote_61]
    simp only [zwp_let]
    rw [hk.2.1.2.2.2.2, if_neg (by omega), zwp_bv]
    refine zwp_mono (qK_singAt hc' hk j ch hj (by omega)) (fun r σ1 ⟨g1, k1, v1⟩ => ?_)
    rw [zwp_bi]
    refine zwp_mono (qK_pairPrice hc' (e + j) (by omega) σ1 k1) (fun r2 σ2 ⟨g2, k2, hr2, l2⟩ => ?_)
    have s0 : ln 32 σ1 (198 + 3 * vv) (e + j) = (1, lo + (ch : Int)) := by rw [v1, if_pos rfl]
    have s1 : 1 ≤ j → ln 32 σ1 (198 + 3 * vv) (e + j - 1) = (1, lo + (ah : Int)) := fun h => by rw [v1, if_neg (by omega)]; exact hl1 h
    rw [sung_p c4 k1.2.2.2.1 s0 s1 0 4] at hr2
    have g12 : zfo (fun q => oKl vv q ∨ oJ 178 q) σ σ2 := (g1.mono (fun q h => Or.inl h)).tr (g2.mono (fun q h => Or.inr h))
    have hlt2 := later_fo hlt g12 (fun i h1 h2 => ⟨by unfold oKl oJ; omega, by unfold oKl oJ; omega⟩)
    obtain ⟨z1, z2, z3, z4⟩ := zK_l (j := j + 1) (by omega)
    have hb4 := pps_bd hT W vv (nl (W vv) e j 0 (lo + (ah : Int)) (lo + (ch : Int))) (e + j) bar 4
    have hcb := fun j p2 p1 p => cst_bd hT W vv e bar j p2 p1 p
    have hHb : ∀ b a : Nat, 0 ≤ hmn (cst T W vv e bar) lo many (n - (j + 1)) (j + 1) (lo + (b : Int)) (lo + (a : Int)) ∧ hmn (cst T W vv e bar) lo many (n - (j + 1)) (j + 1) (lo + (b : Int)) (lo + (a : Int)) ≤ 500000 := by
      intro b a
      have := hmn_bd (lo := lo) c10 hcb (n - (j + 1)) (j + 1) (lo + (b : Int)) (lo + (a : Int)) (by omega)
      omega
    have hFe : ∀ b a x : Nat, hmf (cst T W vv e bar) lo many (n - (j + 1)) j (lo + (b : Int)) (lo + (a : Int)) x = cst T W vv e bar j (lo + (b : Int)) (lo + (a : Int)) (lo + (x : Int)) + hmn (cst T W vv e bar) lo many (n - (j + 1)) (j + 1) (lo + (f1 j a : Int)) (lo + (x : Int)) := by
      intro b a x
      unfold hmf f1
      by_cases c : 0 < j
      · rw [if_pos c]
      · rw [if_neg c]
        have : j = 0 := by omega
        subst this
        rw [hmn_01 (lo + (a : Int)) (lo + ((0 : Nat) : Int))]
    have hFf : (fun (b a : Nat) => hmf (cst T W vv e bar) lo many (n - (j + 1)) j (lo + (b : Int)) (lo + (a : Int))) = (fun (b a x : Nat) => cst T W vv e bar j (lo + ((b : Nat) : Int)) (lo + ((a : Nat) : Int)) (lo + ((x : Nat) : Int)) + (fun b a : Nat => hmn (cst T W vv e bar) lo many (n - (j + 1)) (j + 1) (lo + (b : Int)) (lo + (a : Int))) (f1 j a) x) := by
      funext b a x
      exact hFe b a x
    rw [hFf] at hL
    have hval : ∀ idx : Nat, idx = 15 * f1 j ah + ch → zrd σ2 (184 + (j + 1)) idx = hmn (cst T W vv e bar) lo many (n - (j + 1)) (j + 1) (lo + (f1 j ah : Int)) (lo + (ch : Int)) := by
      intro idx hi
      rw [hi]
      refine (hlt2 (j + 1) (Nat.le_refl _) (by omega) (f1 j ah) ch ?_ ?_).1
      · unfold f1
        by_cases c : 0 < j
        · rw [if_pos c, if_pos (by omega)]; rw [if_pos c] at hma; omega
        · rw [if_neg c]; split <;> omega
      · rw [if_pos (by omega)]; omega
    have hfin : ∀ lat : Int, lat = pps T W vv (nl (W vv) e j 0 (lo + (ah : Int)) (lo + (ch : Int))) (e + j) bar 4 + (fun b a : Nat => hmn (cst T W vv e bar) lo many (n - (j + 1)) (j + 1) (lo + (b : Int)) (lo + (a : Int))) (f1 j ah) ch → zwp (fK_solveNote_115 5000 R (j : Int) (198 + 3 * vv) ((e + j : Nat) : Int) (ah : Int) (ch : Int) lat ((0 : Nat) : Int) σ2 (fun o31 y32 o33 y34 y35 y36 σ30 => fK_solveNote_61 m o31 y32 o33 y34 y35 (zw (y36 + 1)) σ30 K)) P := by
      intro lat hlat
      refine pK_115 hc' j hj mb ma hmb hma (fun b a : Nat => hmn (cst T W vv e bar) lo many (n - (j + 1)) (j + 1) (lo + (b : Int)) (lo + (a : Int))) hHb ah ch hah (by omega) lat hlat hT (fun b a => if a = ah then ch else cn0 b a) (fun b _ => by rw [if_pos rfl]) σ2 P _ (fun σ3 g3 k3 l3 L3 => ?_) mb 5000 0 σ2 (by rw [hmb]; split <;> omega) (by omega) zfo.rf k2 ?_ ?_ ?_
      · rw [ez]
        refine pK_61 hc' j hj mb ma hmb hma hT ah hah cn0 hcn0 σ0 P K hK d m (ch + 1) σ3 (by omega) (by omega) ((hf.tr (g12.mono (fun q h => by unfold oKl oJ at h; unfold oKj; omega))).tr g3) k3 (later_fo hlt2 g3 (fun i h1 h2 => ⟨by unfold oKj; omega, by unfold oKj; omega⟩)) l3 ?_
        rw [hFf]
        refine LSg_cg L3 (fun b a hb ha => ?_)
        grind
      · rw [l2]; exact s0
      · intro h; rw [l2]; exact s1 h
      · refine LSg_cg (LSg_fo hL g12 (by unfold oKl oJ; omega) (by unfold oKl oJ; omega)) (fun b a hb ha => ?_)
        grind
    rw [show zw ((j : Int) + 1) = ((j + 1 : Nat) : Int) from zwj (by omega) (by omega), zckj (by omega) (by omega), Int.toNat_natCast, z1]
    have hr2w : zw r2 = r2 := zwj (by omega) (by omega)
    have hHc := hHb (f1 j ah) ch
    by_cases c : j = 0
    · rw [if_pos (by omega), show zw (0 * 15 + (ch : Int)) = ((ch : Nat) : Int) by rw [zwj (by omega) (by omega)]; omega, zckj (by omega) (by omega), zwp_let, Int.toNat_natCast, hval ch (by unfold f1; rw [if_neg (by omega)]; omega), zwp_let, hr2w, hr2]
      rw [zwj (by omega) (by omega)]
      exact hfin _ rfl
    · rw [if_neg (by omega)]
      have hah15 : ah < 15 := by rw [if_pos (by omega)] at hma; omega
      rw [show zw ((ah : Int) * 15 + (ch : Int)) = ((15 * ah + ch : Nat) : Int) by rw [zwj (by omega) (by omega)]; omega, zckj (by omega) (by omega), zwp_let, Int.toNat_natCast, hval (15 * ah + ch) (by unfold f1; rw [if_pos (by omega)]), zwp_let, hr2w, hr2]
      rw [zwj (by omega) (by omega)]
      exact hfin _ rfl
theorem pK_32 {R : Nat} {T : List Cl} {bar : Int} {W : Nat → Ln} {vv e n : Nat} {lo : Int} {many : Nat} (hc : KC R W vv e n lo many) (j : Nat) (hj : j < n) (mb ma : Nat) (hmb : mb = if 1 < j then many else 1) (hma : ma = if 0 < j then many else 1) (hT : T.length ≤ 10) (σ0 : Zm) :
    ∀ (d m ah : Nat) (σ : Zm), d < m → ah + d = ma → zfo (oKj vv j) σ0 σ → KI R T bar W vv e n lo many σ → later T W vv e bar lo many n (j + 1) σ → LSg (fun b a => hmf (cst T W vv e bar) lo many (n - (j + 1)) j (lo + (b : Int)) (lo + (a : Int))) j mb ma (fun b a => if a < ah then many else 0) σ → zwp (fK_solveNote_32 m R (j : Int) (198 + 3 * vv) ((e + j : Nat) : Int) (ah : Int) σ) (fun _ σ' => zfo (oKj vv j) σ0 σ' ∧ KI R T bar W vv e n lo many σ' ∧ later T W vv e bar lo many n (j + 1) σ' ∧ LSg (fun b a => hmf (cst T W vv e bar) lo many (n - (j + 1)) j (lo + (b : Int)) (lo + (a : Int))) j mb ma (fun _ _ => many) σ')
  | 0, m + 1, ah, σ, _, hah, hf, hk, hlt, hL => by
    have hc' := hc
    obtain ⟨c1, c2, c3, c4, c5, c6, c7, c8, c9, c10, c11, c12⟩ := hc
    have fin := LSg_cg (cn' := fun _ _ => many) hL (fun b a hb ha => if_pos (by omega))
    rw [fK_solveNote_32]
    simp only [zwp_let]
    by_cases c : j = 0
    · rw [if_neg (by omega)] at hma
      rw [if_pos (by omega), if_pos (by omega), zwp_some]
      exact ⟨hf, hk, hlt, fin⟩
    · rw [if_pos (by omega)] at hma
      rw [if_neg (by omega), zwp_let, hk.2.1.2.2.2.2, if_pos (by omega), zwp_some]
      exact ⟨hf, hk, hlt, fin⟩
  | d + 1, m + 1, ah, σ, hm, hah, hf, hk, hlt, hL => by
    have hc' := hc
    obtain ⟨c1, c2, c3, c4, c5, c6, c7, c8, c9, c10, c11, c12⟩ := hc
    have hahb : ah < 15 := by rw [show ma = ah + (d + 1) by omega] at hma; split at hma <;> omega
    have ez : zw ((ah : Int) + 1) = ((ah + 1 : Nat) : Int) := zwj (by omega) (by omega)
    have go : ∀ σ1, zfo (oKl vv) σ σ1 → KI R T bar W vv e n lo many σ1 → (1 ≤ j → ln 32 σ1 (198 + 3 * vv) (e + j - 1) = (1, lo + (ah : Int))) → zwp (fK_solveNote_61 5000 R (j : Int) (198 + 3 * vv) ((e + j : Nat) : Int) (ah : Int) ((0 : Nat) : Int) σ1 (fun o47 y48 o49 y50 y51 σ46 => fK_solveNote_32 m o47 y48 o49 y50 (zw (y51 + 1)) σ46)) (fun _ σ' => zfo (oKj vv j) σ0 σ' ∧ KI R T bar W vv e n lo many σ' ∧ later T W vv e bar lo many n (j + 1) σ' ∧ LSg (fun b a => hmf (cst T W vv e bar) lo many (n - (j + 1)) j (lo + (b : Int)) (lo + (a : Int))) j mb ma (fun _ _ => many) σ') := by
      intro σ1 g1 k1 s1
      refine pK_61 hc' j hj mb ma hmb hma hT ah (by omega) (fun b a => if a < ah then many else 0) (fun b _ => if_neg (by omega)) σ1 _ _ (fun σ2 g2 k2 l2 L2 => ?_) many 5000 0 σ1 (by omega) (by omega) zfo.rf k1 (later_fo hlt g1 (fun i h1 h2 => ⟨by unfold oKl; omega, by unfold oKl; omega⟩)) s1 ?_
      · rw [ez]
        refine pK_32 hc' j hj mb ma hmb hma hT σ0 d m (ah + 1) σ2 (by omega) (by omega) ((hf.tr (g1.mono (fun q h => by unfold oKl at h; unfold oKj; omega))).tr g2) k2 l2 (LSg_cg L2 (fun b a hb ha => ?_))
        grind
      · refine LSg_cg (LSg_fo hL g1 (by unfold oKl; omega) (by unfold oKl; omega)) (fun b a hb ha => ?_)
        grind
    rw [fK_solveNote_32]
    simp only [zwp_let]
    by_cases c : j = 0
    · rw [if_neg (by omega)] at hma
      have e2 : fK_singAt σ (zw ((j : Int) - 1)) (ah : Int) = some (0, σ) := by
        unfold fK_singAt
        rw [zwj (by omega) (by omega), if_pos (by omega)]
      rw [if_pos (by omega), if_neg (by omega), zbv_eq e2]
      exact go σ zfo.rf hk (fun h => by omega)
    · rw [if_pos (by omega)] at hma
      rw [if_neg (by omega), zwp_let, hk.2.1.2.2.2.2, if_neg (by omega), show zw ((j : Int) - 1) = ((j - 1 : Nat) : Int) by rw [zwj (by omega) (by omega)]; omega, zwp_bv]
      refine zwp_mono (qK_singAt hc' hk (j - 1) ah (by omega) (by omega)) (fun r σ1 ⟨g1, k1, v1⟩ => go σ1 g1 k1 (fun h => ?_))
      rw [v1, if_pos (by omega)]
theorem KI_o {R : Nat} {T : List Cl} {bar : Int} {W : Nat → Ln} {vv e n : Nat} {lo : Int} {many : Nat} {D : Nat → Prop} {σ σ1 : Zm} (hk : KI R T bar W vv e n lo many σ) (hf : zfo D σ σ1) (hR : ru R) (hD : ∀ q, D q → 184 ≤ q ∧ q ≤ 197) : KI R T bar W vv e n lo many σ1 := by
  obtain ⟨⟨q1, q2, q3, q4, q5, q6, q7⟩, ⟨k2, k3, k4, k5, k6⟩, k7, k8, k9, k10⟩ := hk
  have hn : ∀ q, (q < 184 ∨ 197 < q) → ¬ D q := fun q h z => by have := hD q z; omega
  have el : ∀ i, ln 32 σ1 (198 + 3 * i) = ln 32 σ (198 + 3 * i) := fun i => ln_fo hf (hn _ (by omega)) (hn _ (by omega))
  refine ⟨⟨q1, q2, TRc_fo hf (fun i hi => hn _ (by have := hR.1; omega)) q3, q4, by rw [hf.rd (hn _ (by omega))]; exact q5, q6, q7⟩, ?_, fun i hi hne => ?_, fun x hx => ?_, fun x hx => ?_, ?_⟩
  · rw [hf.rd (hn _ (by omega)), hf.rd (hn _ (by omega)), hf.rd (hn _ (by omega)), hf.rd (hn _ (by omega)), hf.rd (hn _ (by omega))]
    exact ⟨k2, k3, k4, k5, k6⟩
  · rw [el]; exact k7 i hi hne
  · rw [el]; exact k8 x hx
  · rw [el]; exact k9 x hx
  · rw [el]; exact k10
theorem qK_solveNote {R : Nat} {T : List Cl} {bar : Int} {W : Nat → Ln} {vv e n : Nat} {lo : Int} {many : Nat} (hc : KC R W vv e n lo many) (j : Nat) (hj : j < n) (σ : Zm) (hk : KI R T bar W vv e n lo many σ) (hlt : later T W vv e bar lo many n (j + 1) σ) : zwp (fK_solveNote σ R (j : Int)) (fun _ σ' => zfo oK σ σ' ∧ KI R T bar W vv e n lo many σ' ∧ later T W vv e bar lo many n j σ') := by
  have hc' := hc
  have hT := hk.1.2.2.1.2.1
  obtain ⟨c1, c2, c3, c4, c5, c6, c7, c8, c9, c10, c11, c12⟩ := hc
  obtain ⟨z1, z2, z3, z4⟩ := zK_l (j := j) (by omega)
  unfold fK_solveNote
  simp only [zwp_let]
  rw [hk.2.1.1, zckj (by omega) (by omega), zwp_let, hk.2.1.2.1, zwp_let, show zw ((e : Int) + (j : Int)) = ((e + j : Nat) : Int) from zwj (by omega) (by omega), zckj (by omega) (by omega), Int.toNat_natCast, Int.toNat_natCast, z1, (zK_v c3).1]
  refine zwp_fl (by omega) (fun σ1 g1 v1 => ?_)
  have k1 := KI_o hk g1 c1 (fun q h => by unfold oO at h; omega)
  refine zwp_mono (pK_32 hc' j hj (if 1 < j then many else 1) (if 0 < j then many else 1) rfl rfl hT σ1 (if 0 < j then many else 1) 5000 0 σ1 (by split <;> omega) (by omega) zfo.rf k1 (later_fo hlt g1 (fun i h1 h2 => ⟨oO_ne (by omega), oO_ne (by omega)⟩)) (LSg_cg (cn := fun _ _ => 0) (fun b a hb ha => ?_) (fun b a hb ha => (if_neg (by omega)).symm))) (fun r σ2 ⟨g2, k2, l2, L2⟩ => ⟨?_, k2, ?_⟩)
  · refine ⟨?_, fun h => absurd (show 1 ≤ 0 from h) (by omega)⟩
    have hb15 : b < 15 := by split at hb <;> omega
    have ha15 : a < 15 := by split at ha <;> omega
    rw [v1 _ (by omega)]
    show zw 2147483647 = 2147483647
    decide
  · exact (g1.mono (fun q h => by unfold oO at h; unfold oK; omega)).tr (g2.mono (fun q h => by unfold oKj at h; unfold oK; omega))
  · intro i h1 h2 be ah hb ha
    by_cases q : i = j
    · subst q
      obtain ⟨u1, u2⟩ := L2 be ah hb ha
      have e1 : n - i = (n - (i + 1)) + 1 := by omega
      refine ⟨?_, fun _ => ?_⟩
      · rw [u1, e1]
        rfl
      · rw [u2 c10, show n - i - 1 = n - (i + 1) by omega]
    · exact l2 i (by omega) h2 be ah hb ha
theorem pK_solve_20 {R : Nat} {T : List Cl} {bar : Int} {W : Nat → Ln} {vv e n : Nat} {lo : Int} {many : Nat} (hc : KC R W vv e n lo many) (σ0 : Zm) (P : Int → Zm → Prop) (K : Zm → Zr) (hK : ∀ σ', zfo oK σ0 σ' → KI R T bar W vv e n lo many σ' → later T W vv e bar lo many n 0 σ' → zwp (K σ') P) : ∀ (j m : Nat) (σ : Zm), j < m → j ≤ n → zfo oK σ0 σ → KI R T bar W vv e n lo many σ → later T W vv e bar lo many n j σ → zwp (fK_solve_20 m R ((j : Int) - 1) σ K) P
  | 0, m + 1, σ, _, _, hf, hk, hl => by
    rw [fK_solve_20]
    simp only [zwp_let]
    rw [if_pos (by omega)]
    exact hK σ hf hk hl
  | j + 1, m + 1, σ, hm, hj, hf, hk, hl => by
    have c7 := hc.2.2.2.2.2.2.1
    rw [fK_solve_20]
    simp only [zwp_let]
    rw [if_neg (by omega), show ((j + 1 : Nat) : Int) - 1 = (j : Int) by omega, zwp_bv, show zw ((j : Int) + (-1)) = (j : Int) - 1 by rw [zwj (by omega) (by omega)]; omega]
    refine zwp_mono (qK_solveNote hc j (by omega) σ hk hl) (fun r σ1 ⟨g1, k1, l1⟩ => ?_)
    exact pK_solve_20 hc σ0 P K hK j m σ1 (by omega) (by omega) (hf.tr g1) k1 l1
/-- the notes that are chosen: step j's, behind p2, p1 -/
def chs (c : Nat → Int → Int → Int → Int) (lo : Int) (many n : Nat) : Nat → Int × Int
  | 0 => (lo, lo + (bst (hmf c lo many (n - 1) 0 lo lo) many).2)
  | j + 1 => ((chs c lo many n j).2, lo + (bst (hmf c lo many (n - (j + 1) - 1) (j + 1) (chs c lo many n j).1 (chs c lo many n j).2) many).2)
theorem bst_2 {P : Nat → Int} : ∀ n : Nat, 1 ≤ n → (∀ k, P k < 2147483647) → ∃ x : Nat, x < n ∧ (bst P n).2 = (x : Int)
  | 1, _, h => ⟨0, by omega, by unfold bst; rw [if_pos (by exact h 0)]⟩
  | n + 2, _, h => by
    obtain ⟨x, h1, h2⟩ := bst_2 (n + 1) (by omega) h
    show ∃ x : Nat, x < n + 2 ∧ (if P (n + 1) < (bst P (n + 1)).1 then (P (n + 1), ((n + 1 : Nat) : Int)) else bst P (n + 1)).2 = (x : Int)
    split
    · exact ⟨n + 1, by omega, rfl⟩
    · exact ⟨x, by omega, h2⟩

theorem hmf_lt {T : List Cl} (hT : T.length ≤ 10) {W : Nat → Ln} {vv e : Nat} {bar lo : Int} {many k j : Nat} {p2 p1 : Int} (hm : 1 ≤ many) (hk : k ≤ 5) (x : Nat) : 0 ≤ hmf (cst T W vv e bar) lo many k j p2 p1 x ∧ hmf (cst T W vv e bar) lo many k j p2 p1 x < 2147483647 := by
  have h1 := cst_bd hT W vv e bar j p2 p1 (lo + (x : Int))
  have h2 := hmn_bd (lo := lo) hm (fun j p2 p1 p => cst_bd hT W vv e bar j p2 p1 p) k (j + 1) p1 (lo + (x : Int)) (by omega)
  unfold hmf
  omega
theorem pK_solve_55 {R : Nat} {T : List Cl} {bar : Int} {W : Nat → Ln} {vv e n : Nat} {lo : Int} {many : Nat} (hc : KC R W vv e n lo many) (hT : T.length ≤ 10) (σ0 : Zm) : ∀ (d m j : Nat) (σ : Zm) (be ah : Nat), d < m → j + d = n → zfo (oO 197) σ0 σ → zrd σ 177 7 = (n : Int) → zrd σ 177 8 = lo → later T W vv e bar lo many n 0 σ → (∀ i, i < j → zrd σ 197 i = (chs (cst T W vv e bar) lo many n i).2) → be < (if 1 < j then many else 1) → ah < (if 0 < j then many else 1) → (j = 0 ∨ ∃ i, j = i + 1 ∧ (chs (cst T W vv e bar) lo many n i).1 = lo + (be : Int) ∧ (chs (cst T W vv e bar) lo many n i).2 = lo + (ah : Int)) → zwp (fK_solve_55 m (be : Int) (ah : Int) (j : Int) σ) (fun _ σ' => zfo (oO 197) σ0 σ' ∧ ∀ i, i < n → zrd σ' 197 i = (chs (cst T W vv e bar) lo many n i).2)
  | 0, m + 1, j, σ, be, ah, _, hj, hf, h7, h8, hl, hv, hb, ha, hq => by
    rw [fK_solve_55]
    simp only [zwp_let]
    rw [h7, if_pos (by omega), zwp_some]
    exact ⟨hf, fun i hi => hv i (by omega)⟩
  | d + 1, m + 1, j, σ, be, ah, hm, hj, hf, h7, h8, hl, hv, hb, ha, hq => by
    have hc' := hc
    obtain ⟨c1, c2, c3, c4, c5, c6, c7, c8, c9, c10, c11, c12⟩ := hc
    obtain ⟨z1, z2, z3, z4⟩ := zK_l (j := j) (by omega)
    have hb15 : be < 15 := by split at hb <;> omega
    have ha15 : ah < 15 := by split at ha <;> omega
    have ez : zw ((j : Int) + 1) = ((j + 1 : Nat) : Int) := zwj (by omega) (by omega)
    have hval := (hl j (by omega) (by omega) be ah hb ha).2 (by omega)
    obtain ⟨x, x1, x2⟩ := bst_2 (P := hmf (cst T W vv e bar) lo many (n - j - 1) j (lo + (be : Int)) (lo + (ah : Int))) many c10 (fun k => (hmf_lt hT c10 (by omega) k).2)
    rw [x2] at hval
    have ech : (chs (cst T W vv e bar) lo many n j).2 = lo + (x : Int) ∧ (∀ i, j = i → (chs (cst T W vv e bar) lo many n i).1 = if 0 < j then lo + (ah : Int) else lo) := by
      rcases hq with rfl | ⟨i, rfl, q1, q2⟩
      · have hb0 : be = 0 := by rw [if_neg (by omega)] at hb; omega
        have ha0 : ah = 0 := by rw [if_neg (by omega)] at ha; omega
        subst hb0; subst ha0
        rw [show lo + ((0 : Nat) : Int) = lo by omega] at x2
        refine ⟨?_, fun i hi => ?_⟩
        · show lo + (bst (hmf (cst T W vv e bar) lo many (n - 1) 0 lo lo) many).2 = _
          rw [show n - 1 = n - 0 - 1 by omega, x2]
        · subst hi; rfl
      · refine ⟨?_, fun i' hi => ?_⟩
        · show lo + (bst (hmf (cst T W vv e bar) lo many (n - (i + 1) - 1) (i + 1) (chs (cst T W vv e bar) lo many n i).1 (chs (cst T W vv e bar) lo many n i).2) many).2 = _
          rw [q1, q2, x2]
        · subst hi
          rw [if_pos (by omega)]
          exact q2
    rw [fK_solve_55]
    simp only [zwp_let]
    rw [h7, if_neg (by omega), zckj (by omega) (by omega), show zw ((be : Int) * 15 + (ah : Int)) = ((15 * be + ah : Nat) : Int) by rw [zwj (by omega) (by omega)]; omega, zckj (by omega) (by omega), zwp_let, Int.toNat_natCast, Int.toNat_natCast, z3, hval, zwp_let, h8, zckj (by omega) (by omega), ez]
    refine zwp_st (fun σ1 g1 v1 => ?_)
    have go : ∀ be' : Nat, be' < (if 1 < j + 1 then many else 1) → ((chs (cst T W vv e bar) lo many n j).1 = lo + (be' : Int)) → zwp (fK_solve_55 m (be' : Int) (x : Int) ((j + 1 : Nat) : Int) σ1) (fun _ σ' => zfo (oO 197) σ0 σ' ∧ ∀ i, i < n → zrd σ' 197 i = (chs (cst T W vv e bar) lo many n i).2) := by
      intro be' hbe' hce
      refine pK_solve_55 hc' hT σ0 d m (j + 1) σ1 be' x (by omega) (by omega) (hf.tr g1) (by rw [g1.rd (oO_ne (by omega))]; exact h7) (by rw [g1.rd (oO_ne (by omega))]; exact h8) (later_fo hl g1 (fun i h1 h2 => ⟨oO_ne (by omega), oO_ne (by omega)⟩)) (fun i hi => ?_) hbe' (by rw [if_pos (by omega)]; exact x1) (Or.inr ⟨j, rfl, hce, ech.1⟩)
      rw [v1]
      by_cases q : i = j
      · rw [if_pos q, zwj (by omega) (by omega), q, ech.1]
      · rw [if_neg q]
        exact hv i (by omega)
    by_cases c : j = 0
    · rw [if_pos (by omega)]
      refine go 0 (by split <;> omega) ?_
      rw [ech.2 j rfl, if_neg (by omega)]
      omega
    · rw [if_neg (by omega)]
      refine go ah ?_ ?_
      · rw [if_pos (by omega)] at ha ⊢
        exact ha
      · rw [ech.2 j rfl, if_pos (by omega)]
theorem qK_solve {R : Nat} {T : List Cl} {bar : Int} {W : Nat → Ln} {vv e n : Nat} {lo : Int} {many : Nat} (hc : KC R W vv e n lo many) (σ : Zm) (hk : KI R T bar W vv e n lo many σ) : zwp (fK_solve σ R) (fun _ σ' => zfo oK σ σ' ∧ zrd σ' 177 10 = hmn (cst T W vv e bar) lo many n 0 lo lo ∧ ∀ i, i < n → zrd σ' 197 i = (chs (cst T W vv e bar) lo many n i).2) := by
  have hc' := hc
  have hT := hk.1.2.2.1.2.1
  obtain ⟨c1, c2, c3, c4, c5, c6, c7, c8, c9, c10, c11, c12⟩ := hc
  obtain ⟨z1, z2, z3, z4⟩ := zK_l (j := n) (by omega)
  have hcb := fun j p2 p1 p => cst_bd hT W vv e bar j p2 p1 p
  unfold fK_solve
  simp only [zwp_let]
  rw [hk.2.1.2.2.1, zckj (by omega) (by omega), Int.toNat_natCast, z1]
  refine zwp_fl (by omega) (fun σ1 g1 v1 => ?_)
  have k1 := KI_o hk g1 c1 (fun q h => by unfold oO at h; omega)
  simp only [zwp_let]
  rw [k1.2.1.2.2.1, zwj (a := (n : Int) - 1) (by omega) (by omega)]
  refine pK_solve_20 hc' σ1 _ _ (fun σ2 g2 k2 l2 => ?_) n 5000 σ1 (by omega) (Nat.le_refl _) zfo.rf k1 (fun i h1 h2 be ah hb ha => ?_)
  · rw [zck_ok (by decide), zck_ok (by decide), zwp_let]
    have h0 := (l2 0 (by omega) (by omega) 0 0 (by split <;> omega) (by split <;> omega)).1
    rw [show lo + ((0 : Nat) : Int) = lo by omega, Nat.sub_zero] at h0
    have e0 : zrd σ2 (zRF 183 0) 0 = hmn (cst T W vv e bar) lo many n 0 lo lo := by
      rw [(zK_l (j := 0) (by omega)).1]
      exact h0
    rw [e0]
    refine zwp_st (fun σ3 g3 v3 => ?_)
    have hb := hmn_bd (lo := lo) c10 hcb n 0 lo lo (by omega)
    have := pK_solve_55 hc' hT σ3 n 5000 0 σ3 0 0 (by omega) (by omega) zfo.rf (by rw [v3, if_neg (by omega)]; exact k2.2.1.2.2.1) (by rw [v3, if_neg (by omega)]; exact k2.2.1.2.2.2.1) (later_fo l2 g3 (fun i h1 h2 => ⟨oO_ne (by omega), oO_ne (by omega)⟩)) (fun i hi => by omega) (by split <;> omega) (by split <;> omega) (Or.inl rfl)
    refine zwp_mono this (fun r σ4 ⟨g4, v4⟩ => ⟨?_, ?_, v4⟩)
    · exact (((g1.mono (fun q h => by unfold oO at h; unfold oK; omega)).tr g2).tr (g3.mono (fun q h => by unfold oO at h; unfold oK; omega))).tr (g4.mono (fun q h => by unfold oO at h; unfold oK; omega))
    · rw [g4.rd (oO_ne (by omega)), v3, if_pos rfl, zwj (by omega) (by omega)]
  · have : i = n := by omega
    subst this
    have hb15 : be < 15 := by split at hb <;> omega
    have ha15 : ah < 15 := by split at ha <;> omega
    refine ⟨?_, fun h => absurd h (by omega)⟩
    rw [v1 _ (by omega), Nat.sub_self]
    show zw 0 = 0
    decide
theorem pK_begin_3 {W : Nat → Ln} {p : Nat} (hp : p < 4) (σ0 : Zm) (V : Nat → Ln) (hV : XV 1 σ0 V) (x3 x4 : Int) (P : Int → Zm → Prop) (K : Nat → Int → Int → Zm → Zr) (hK : ∀ σ', zfo (fun q => 198 ≤ q ∧ q ≤ 209) σ0 σ' → (∀ i, i < 4 → ln 32 σ' (198 + 3 * i) = V (4 * p + i)) → zwp (K 1 x3 x4 σ') P) : ∀ (d m i : Nat) (σ : Zm), d < m → i + d = 4 → zfo (fun q => 198 ≤ q ∧ q ≤ 209) σ0 σ → (∀ k, k < i → ln 32 σ (198 + 3 * k) = V (4 * p + k)) → zwp (fK_begin_3 m 1 (p : Int) x3 x4 (i : Int) σ K) P
  | 0, m + 1, i, σ, _, hi, hf, hv => by
    rw [fK_begin_3]
    simp only [zwp_let]
    rw [if_pos (by omega)]
    exact hK σ hf (fun k hk => hv k (by omega))
  | d + 1, m + 1, i, σ, hm, hi, hf, hv => by
    obtain ⟨a1, a2⟩ := so_voice (o := 1) (Or.inl rfl) (4 * p + i) (by omega)
    obtain ⟨b1, b2⟩ := zK_v (v := i) (by omega)
    rw [fK_begin_3]
    simp only [zwp_let]
    rw [if_neg (by omega), zckj (by omega) (by omega), show zw ((p : Int) * 4 + (i : Int)) = ((4 * p + i : Nat) : Int) by rw [zwj (by omega) (by omega)]; omega, zckj (by omega) (by omega), Int.toNat_natCast, Int.toNat_natCast, a1, b1, zwp_bv, show zw ((i : Int) + 1) = ((i + 1 : Nat) : Int) from zwj (by omega) (by omega)]
    refine zwp_mono (qL_take b2 a2 (by omega) σ) (fun r σ1 ⟨g1, g2, _⟩ => ?_)
    refine pK_begin_3 (W := W) hp σ0 V hV x3 x4 P K hK d m (i + 1) σ1 (by omega) (by omega) (hf.tr (g1.mono (fun q h => by unfold oD at h; omega))) (fun k hk => ?_)
    by_cases c : k = i
    · rw [c, g2]
      rw [ln_fo hf (by omega) (by omega)]
      exact (hV _ (by omega)).1
    · rw [ln_fo g1 (by unfold oD; omega) (by unfold oD; omega)]
      exact hv k (by omega)
/-- lowest and many, from the last pitch -/
def klo (l : Int) : Int := max 0 (l - 7)
def kmn (l : Int) : Nat := (min 60 (l + 7) - klo l + 1).toNat
theorem qK_begin {R : Nat} {T : List Cl} {bar : Int} {V : Nat → Ln} {p vv n : Nat} (hp : p < 4) (hvv : vv < 4) (hn : 1 ≤ n ∧ n ≤ 5) (hR : ru R) (hW : WF T) (σ : Zm) (hT : TRc σ R T) (hV : XV 1 σ V) (hb : zrd σ 1 7 = bar) (hbb : 1 ≤ bar ∧ bar ≤ 12) (hsm : ∀ i, lsm (V i)) (h60 : ∀ t, 0 ≤ (V (4 * p + vv) t).2 ∧ (V (4 * p + vv) t).2 ≤ 60) (he1 : 1 ≤ lbt (V (4 * p + vv))) (hen : lbt (V (4 * p + vv)) + n ≤ 32) : zwp (fK_begin σ 1 (p : Int) (vv : Int) (n : Int)) (fun _ σ' => zfo oK σ σ' ∧ KI R T bar (fun i => V (4 * p + i)) vv (lbt (V (4 * p + vv))) n (klo (V (4 * p + vv) (lbt (V (4 * p + vv)) - 1)).2) (kmn (V (4 * p + vv) (lbt (V (4 * p + vv)) - 1)).2) σ' ∧ KC R (fun i => V (4 * p + i)) vv (lbt (V (4 * p + vv))) n (klo (V (4 * p + vv) (lbt (V (4 * p + vv)) - 1)).2) (kmn (V (4 * p + vv) (lbt (V (4 * p + vv)) - 1)).2)) := by
  obtain ⟨b1, b2⟩ := zK_v (v := vv) hvv
  have hl := h60 (lbt (V (4 * p + vv)) - 1)
  unfold fK_begin
  refine pK_begin_3 (W := V) hp σ V hV _ _ _ _ (fun σ1 f1 v1 => ?_) 4 5000 0 σ (by omega) (by omega) zfo.rf (fun k hk => by omega)
  refine zwp_st (fun σ2 f2 w2 => ?_)
  refine zwp_st (fun σ3 f3 w3 => ?_)
  rw [zwp_let, w3, if_neg (by omega), w2, if_pos rfl, zwj (a := (vv : Int)) (by omega) (by omega), zckj (by omega) (by omega), Int.toNat_natCast, b1, zwp_bi, qL_beats b2 (by omega), zwp_some]
  have f23 : zfo (oO 177) σ1 σ3 := f2.tr f3
  have l3 : ∀ i, i < 4 → ln 32 σ3 (198 + 3 * i) = V (4 * p + i) := fun i hi => by rw [ln_fo f23 (oO_ne (by omega)) (oO_ne (by omega))]; exact v1 i hi
  rw [l3 vv hvv, zwj (a := (lbt (V (4 * p + vv)) : Int)) (by omega) (by omega)]
  refine zwp_st (fun σ4 f4 w4 => ?_)
  rw [zwp_let, w4, if_pos rfl, zwj (a := (lbt (V (4 * p + vv)) : Int)) (by omega) (by omega), if_pos (by omega), zwp_let, w4, if_neg (by omega), w3, if_neg (by omega), w2, if_pos rfl, zwj (a := (vv : Int)) (by omega) (by omega), zckj (by omega) (by omega), zwp_let, Int.toNat_natCast, b1, show zw ((lbt (V (4 * p + vv)) : Int) - 1) = ((lbt (V (4 * p + vv)) - 1 : Nat) : Int) by rw [zwj (by omega) (by omega)]; omega, b2.1, zckj (by omega) (by omega), zwp_let, Int.toNat_natCast]
  have l4 : ∀ i, i < 4 → ln 32 σ4 (198 + 3 * i) = V (4 * p + i) := fun i hi => by rw [ln_fo f4 (oO_ne (by omega)) (oO_ne (by omega))]; exact l3 i hi
  have hnz : (V (4 * p + vv) (lbt (V (4 * p + vv)) - 1)).1 ≠ 0 := by
    have hp2 : ∀ (f : Nat → Int) (n : Nat), 1 ≤ pbt f n → f (pbt f n - 1) ≠ 0 := by
      intro f n
      induction n with
      | zero => intro h; exact absurd h (by simp [pbt])
      | succ n ih =>
        intro h
        unfold pbt at h ⊢
        by_cases c : f n = 0
        · rw [if_pos c] at h ⊢; exact ih h
        · rw [if_neg c]; exact c
    exact hp2 _ 32 he1
  have epl : zrd σ4 (198 + 3 * vv + 1) (lbt (V (4 * p + vv)) - 1) = (V (4 * p + vv) (lbt (V (4 * p + vv)) - 1)).2 := by
    rw [← l4 vv hvv] at hnz ⊢
    generalize lbt (ln 32 σ4 (198 + 3 * vv)) = ee at *
    have hee : ee - 1 < 32 := by
      by_cases q : ee - 1 < 32
      · exact q
      · rw [ln_out q] at hnz; exact absurd rfl hnz
    rw [ln_1 hee] at hnz
    exact (ln_2 hee hnz).symm
  rw [epl]
  generalize hlast : (V (4 * p + vv) (lbt (V (4 * p + vv)) - 1)).2 = last at *
  unfold fK_begin_96
  rw [zwp_let, zwj (a := last - 7) (by omega) (by omega), show max 0 (last - 7) = klo last from rfl]
  have hk1 : 0 ≤ klo last ∧ klo last ≤ 60 := by unfold klo; omega
  have hk2 : (kmn last : Int) = min 60 (last + 7) - klo last + 1 := by unfold kmn klo; omega
  have hk3 : 1 ≤ kmn last ∧ kmn last ≤ 15 ∧ klo last + (kmn last : Int) ≤ 61 := by unfold klo at *; omega
  refine zwp_st (fun σ5 f5 w5 => ?_)
  rw [zwp_let, zwj (a := last + 7) (by omega) (by omega), zwp_let, w5, if_pos rfl, zwj (a := klo last) (by omega) (by omega), ← hk2]
  refine zwp_st (fun σ6 f6 w6 => ?_)
  have f456 : zfo (oO 177) σ1 σ6 := (f23.tr f4).tr (f5.tr f6)
  rw [zwp_let, f456.rd (oO_ne (by omega)), f1.rd (by omega), hb]
  obtain ⟨σ7, e7, g7, h3, h4, h5, h6⟩ := qJ_begin (J := 178) σ6 bar (-1) hbb (by decide)
  rw [zbv_eq e7, zwp_some]
  have fall : zfo oK σ σ7 := ((f1.mono (fun q h => by unfold oK; omega)).tr (f456.mono (fun q h => by unfold oO at h; unfold oK; omega))).tr (g7.mono (fun q h => by unfold oO at h; unfold oK; omega))
  have l7 : ∀ i, i < 4 → ln 32 σ7 (198 + 3 * i) = V (4 * p + i) := fun i hi => by rw [ln_fo g7 (oO_ne (by omega)) (oO_ne (by omega)), ln_fo f456 (oO_ne (by omega)) (oO_ne (by omega))]; exact v1 i hi
  refine ⟨fall, ⟨⟨hR.2.2, ru_J hR (by omega), TRc_fo fall (fun j hj => by have := hR.1; unfold oK; omega) hT, hW, h3, hbb.1, hbb.2⟩, ⟨?_, ?_, ?_, ?_, ?_⟩, fun i hi _ => l7 i hi, fun x hx => by rw [l7 vv hvv], fun x hx => ?_, by rw [l7 vv hvv]; exact hsm _⟩, hR, fun i => hsm _, hvv, he1, hen, hn.1, hn.2, hk1.1, hk1.2, hk3.1, hk3.2.1, hk3.2.2⟩
  · rw [g7.rd (oO_ne (by omega)), w6, if_neg (by omega), w5, if_neg (by omega), w4, if_neg (by omega), w3, if_neg (by omega), w2, if_pos rfl, zwj (by omega) (by omega)]
  · rw [g7.rd (oO_ne (by omega)), w6, if_neg (by omega), w5, if_neg (by omega), w4, if_pos rfl, zwj (by omega) (by omega)]
  · rw [g7.rd (oO_ne (by omega)), w6, if_neg (by omega), w5, if_neg (by omega), w4, if_neg (by omega), w3, if_pos rfl, zwj (by omega) (by omega)]
  · rw [g7.rd (oO_ne (by omega)), w6, if_neg (by omega), w5, if_pos rfl, zwj (by omega) (by omega)]
  · rw [g7.rd (oO_ne (by omega)), w6, if_pos rfl, zwj (by omega) (by omega)]
  · rw [l7 vv hvv]
    by_cases c : x < 32
    · have := pbt_hi (fun t => (V (4 * p + vv) t).1) 32 x hx c
      rw [this]
      decide
    · have := l7 vv hvv
      rw [← this, ln_out c]
      decide

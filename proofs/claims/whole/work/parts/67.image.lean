/-! MY OWN: image, back, about, fault -/
theorem pM_copyRow_2 (a b : Nat) (ha : zLN a = 700) (hb : zLN b = 700) (hd : a ≠ b) (σ0 : Zm) : ∀ (d m n : Nat) (σ : Zm), d < m → n + d = 700 → zfo (oO b) σ0 σ → (∀ k, k < n → zrd σ b k = zrd σ0 a k) → zwp (fM_copyRow_2 m a b (n : Int) σ) (fun _ σ' => zfo (oO b) σ0 σ' ∧ ∀ k, k < 700 → zrd σ' b k = zrd σ0 a k)
  | 0, m + 1, n, σ, _, hn, h1, h2 => by
    rw [fM_copyRow_2]
    simp only [zwp_let]
    rw [if_pos (by omega), zwp_some]
    exact ⟨h1, fun k hk => h2 k (by omega)⟩
  | d + 1, m + 1, n, σ, hm, hn, h1, h2 => by
    rw [fM_copyRow_2]
    simp only [zwp_let]
    rw [if_neg (by omega), zckj (by omega) (by rw [ha]; omega), zwp_let, zckj (by omega) (by rw [hb]; omega), Int.toNat_natCast]
    refine zwp_st (fun σ1 f1 v1 => ?_)
    rw [show zw ((n : Int) + 1) = ((n + 1 : Nat) : Int) by rw [zwj (by omega) (by omega)]; omega]
    refine pM_copyRow_2 a b ha hb hd σ0 d m (n + 1) σ1 (by omega) (by omega) (h1.tr f1) (fun k hk => ?_)
    rw [v1 k]
    by_cases c : k = n
    · rw [if_pos c, zw_rd, c, h1.rd (oO_ne hd)]
    · rw [if_neg c]
      exact h2 k (by omega)
theorem qM_copyRow (a b : Nat) (ha : zLN a = 700) (hb : zLN b = 700) (hd : a ≠ b) (σ : Zm) : zwp (fM_copyRow σ a b) (fun _ σ' => zfo (oO b) σ σ' ∧ ∀ k, k < 700 → zrd σ' b k = zrd σ a k) := by
  unfold fM_copyRow
  exact pM_copyRow_2 a b ha hb hd σ 700 5000 0 σ (by omega) (by omega) zfo.rf (fun k hk => absurd hk (by omega))
theorem st_image : St (fun σ => fX_image σ) (fun σ => fM_image σ) := by
  intro σ h
  have hI := h
  obtain ⟨w, p, g, gp, hX, hM, hXT, hMP⟩ := h
  have h700 : zLN 274 = 700 ∧ zLN 275 = 700 := (by decide +kernel)
  show zwp (fX_image σ) (fun r1 σ1 => zwp (fM_image σ1) (fun r2 σ2 => r1 = r2 ∧ Inv σ2))
  unfold fX_image
  rw [zwp_bv]
  refine zwp_mono (qS_take (Or.inr rfl) (Or.inl rfl) (by decide) σ (wV w) (wU w) (wN w) hX.1) (fun _ σ1 ⟨f1, x1⟩ => ?_)
  have hX1 : XS 1 σ1 (wV w) (wU w) (wN w) := XS_fo hX.1 f1 (fun q a b => by unfold oS; omega)
  rw [zwp_let, zwp_some, hX1.2.2.2.1]
  unfold fM_image
  have m0 : MS 274 σ1 (wV w) (wU w) (wN w) := MS_fo hM.1 f1 (by unfold oS; omega)
  rw [zwp_bv]
  refine zwp_mono (qM_copyRow 274 275 h700.1 h700.2 (by decide) σ1) (fun _ σ2 ⟨f2, v2⟩ => ?_)
  have f12 : zfo (fun q => oS 75 q ∨ oO 275 q) σ σ2 := (f1.mono (fun q z => Or.inl z)).tr (f2.mono (fun q z => Or.inr z))
  have m2 : MS 274 σ2 (wV w) (wU w) (wN w) := MS_fo m0 f2 (oO_ne (by omega))
  rw [zckj (by decide) (by decide), zwp_let, zwp_some, m2.2.2.1 1 (by omega)]
  refine ⟨rfl, (w.1, w.1, w.2.2), p, ⟨g.1, g.1, Int.le_refl _, g.2.2.2⟩, gp, ⟨XS_fo hX1 f2 (fun q a b => oO_ne (by omega)), XS_fo x1 f2 (fun q a b => oO_ne (by omega)), fun i hi hn => TRc_fo f12 (fun j hj => by unfold oS oO; omega) (hX.2.2 i hi hn)⟩, ⟨m2, MS_cg m0 v2, fun i hi hn => TRm_fo f12 (by unfold oS oO; omega) (hM.2.2 i hi hn)⟩, XT_fo hXT f12 (by unfold oS oO; omega) (by unfold oS oO; omega) (by unfold oS oO; omega), MP_fo hMP f12 (fun k _ _ => f12.rd (by unfold oS oO; omega) k) (by unfold oS oO; omega)⟩
theorem st_back : St (fun σ => fX_back σ) (fun σ => fM_back σ) := by
  intro σ h
  have hI := h
  obtain ⟨w, p, g, gp, hX, hM, hXT, hMP⟩ := h
  have h700 : zLN 274 = 700 ∧ zLN 275 = 700 := (by decide +kernel)
  show zwp (fX_back σ) (fun r1 σ1 => zwp (fM_back σ1) (fun r2 σ2 => r1 = r2 ∧ Inv σ2))
  unfold fX_back
  rw [zwp_bv]
  refine zwp_mono (qS_take (Or.inl rfl) (Or.inr rfl) (by decide) σ w.2.1.1 w.2.1.2.1 w.2.1.2.2 hX.2.1) (fun _ σ1 ⟨f1, x1⟩ => ?_)
  have hX1 : XS 75 σ1 w.2.1.1 w.2.1.2.1 w.2.1.2.2 := XS_fo hX.2.1 f1 (fun q a b => by unfold oS; omega)
  rw [zwp_let, zwp_some, x1.2.2.2.1]
  unfold fM_back
  have m0 : MS 275 σ1 w.2.1.1 w.2.1.2.1 w.2.1.2.2 := MS_fo hM.2.1 f1 (by unfold oS; omega)
  rw [zwp_bv]
  refine zwp_mono (qM_copyRow 275 274 h700.2 h700.1 (by decide) σ1) (fun _ σ2 ⟨f2, v2⟩ => ?_)
  have f12 : zfo (fun q => oS 1 q ∨ oO 274 q) σ σ2 := (f1.mono (fun q z => Or.inl z)).tr (f2.mono (fun q z => Or.inr z))
  have m2 : MS 275 σ2 w.2.1.1 w.2.1.2.1 w.2.1.2.2 := MS_fo m0 f2 (oO_ne (by omega))
  have m3 : MS 274 σ2 w.2.1.1 w.2.1.2.1 w.2.1.2.2 := MS_cg m0 v2
  rw [zckj (by decide) (by decide), zwp_let, zwp_some, m3.2.2.1 1 (by omega)]
  have hn1 := g.2.2.1
  refine ⟨rfl, (w.2.1, w.2.1, w.2.2), p, ⟨g.2.1, g.2.1, Int.le_refl _, fun i hi hn => g.2.2.2 i hi (Int.lt_of_lt_of_le hn hn1)⟩, gp, ⟨XS_fo x1 f2 (fun q a b => oO_ne (by omega)), XS_fo hX1 f2 (fun q a b => oO_ne (by omega)), fun i hi hn => TRc_fo f12 (fun j hj => by unfold oS oO; omega) (hX.2.2 i hi (Int.lt_of_lt_of_le hn hn1))⟩, ⟨m3, m2, fun i hi hn => TRm_fo f12 (by unfold oS oO; omega) (hM.2.2 i hi (Int.lt_of_lt_of_le hn hn1))⟩, XT_fo hXT f12 (by unfold oS oO; omega) (by unfold oS oO; omega) (by unfold oS oO; omega), MP_fo hMP f12 (fun k _ _ => f12.rd (by unfold oS oO; omega) k) (by unfold oS oO; omega)⟩
theorem zw_rng {x : Int} (h : zw x = x) : -2147483648 ≤ x ∧ x < 2147483648 := by
  have h1 := Int32.le_toInt (zI x)
  have h2 := Int32.toInt_lt (zI x)
  have e : zw x = (zI x).toInt := rfl
  omega
theorem st_fault (x1 : Int) : St (fun σ => fX_fault σ x1) (fun σ => fM_fault σ x1) := by
  intro σ h
  have hI := h
  obtain ⟨w, p, g, gp, hX, hM, hXT, hMP⟩ := h
  have key : ∀ a : Int, fX_fault σ x1 = some (a, σ) → fM_fault σ x1 = some (a, σ) → zwp (fX_fault σ x1) (fun r1 σ1 => zwp (fM_fault σ1 x1) (fun r2 σ2 => r1 = r2 ∧ Inv σ2)) := fun a e1 e2 => St_neg (G := fun σ => fM_fault σ x1) hI e1 e2
  show zwp (fX_fault σ x1) (fun r1 σ1 => zwp (fM_fault σ1 x1) (fun r2 σ2 => r1 = r2 ∧ Inv σ2))
  obtain ⟨t1, t2, t3, t4⟩ := hXT
  obtain ⟨m1, m2, m3, m4⟩ := hMP
  by_cases c : x1 = 0
  · by_cases d : p.2.2.1 = 0
    · refine key (-1) ?_ ?_
      · unfold fX_fault
        dsimp only [zlet]
        rw [t3, if_pos d]
      · unfold fM_fault
        dsimp only [zlet]
        rw [ifnn c, m3, if_pos d]
    · refine key p.2.2.2.1 ?_ ?_
      · unfold fX_fault
        dsimp only [zlet]
        rw [t3, if_neg d, pwithin_t (by omega), if_pos (by decide), ifnn c, (t4 d).1]
      · unfold fM_fault
        dsimp only [zlet]
        rw [ifnn c, m3, if_neg d]
  · by_cases c1 : x1 = 1
    · by_cases d : p.2.2.1 = 0
      · refine key (-1) ?_ ?_
        · unfold fX_fault
          dsimp only [zlet]
          rw [t3, if_pos d]
        · unfold fM_fault
          dsimp only [zlet]
          rw [if_pos c, ifnn c1, m4, if_pos d]
      · refine key p.2.2.2.2 ?_ ?_
        · unfold fX_fault
          dsimp only [zlet]
          rw [t3, if_neg d, pwithin_t (by omega), if_pos (by decide), if_pos c, (t4 d).2]
        · unfold fM_fault
          dsimp only [zlet]
          rw [if_pos c, ifnn c1, m4, if_neg d]
    · refine key (-1) ?_ ?_
      · unfold fX_fault
        dsimp only [zlet]
        by_cases d : zrd σ 0 11 = 0
        · rw [if_pos d]
        · rw [if_neg d, pwithin_f (by omega), if_neg (by decide)]
      · unfold fM_fault
        dsimp only [zlet]
        rw [if_pos c, if_pos c1]
theorem st_about (x1 : Int) (h1 : zw x1 = x1) : St (fun σ => fX_about σ x1) (fun σ => fM_about σ x1) := by
  intro σ h
  have hI := h
  obtain ⟨w, p, g, gp, hX, hM, hXT, hMP⟩ := h
  obtain ⟨n0, n1, n2, n3⟩ := GI_n g
  have hr : -2147483648 ≤ x1 ∧ x1 < 2147483648 := zw_rng h1
  have key : ∀ a : Int, fX_about σ x1 = some (a, σ) → fM_about σ x1 = some (a, σ) → zwp (fX_about σ x1) (fun r1 σ1 => zwp (fM_about σ1 x1) (fun r2 σ2 => r1 = r2 ∧ Inv σ2)) := fun a e1 e2 => St_neg (G := fun σ => fM_about σ x1) hI e1 e2
  show zwp (fX_about σ x1) (fun r1 σ1 => zwp (fM_about σ1 x1) (fun r2 σ2 => r1 = r2 ∧ Inv σ2))
  by_cases c0 : x1 = 0
  · refine key (wN w 0) ?_ ?_
    · unfold fX_about
      rw [if_pos c0]
      dsimp only [zlet]
      rw [hX.1.2.2.1]
    · unfold fM_about
      rw [mIn_f (by omega), if_pos rfl, mIn_f (by omega), if_pos rfl, mIn_f (by omega), if_pos rfl, mIn_f (by omega), if_pos rfl, if_pos c0, zckj (by decide) (by decide)]
      dsimp only [zlet]
      rw [hM.1.2.2.1 0 (by omega)]
  by_cases c1 : x1 = 1
  · refine key (wN w 1) ?_ ?_
    · unfold fX_about
      rw [if_neg c0, if_pos c1]
      dsimp only [zlet]
      rw [hX.1.2.2.2.1]
    · unfold fM_about
      rw [mIn_f (by omega), if_pos rfl, mIn_f (by omega), if_pos rfl, mIn_f (by omega), if_pos rfl, mIn_f (by omega), if_pos rfl, if_neg c0, if_pos c1, zckj (by decide) (by decide)]
      dsimp only [zlet]
      rw [hM.1.2.2.1 1 (by omega)]
  by_cases c2 : x1 = 2
  · refine key (wN w 2) ?_ ?_
    · unfold fX_about
      rw [if_neg c0, if_neg c1, if_pos c2]
      dsimp only [zlet]
      rw [hX.1.2.2.2.2.1]
    · unfold fM_about
      rw [mIn_f (by omega), if_pos rfl, mIn_f (by omega), if_pos rfl, mIn_f (by omega), if_pos rfl, mIn_f (by omega), if_pos rfl, if_neg c0, if_neg c1, if_pos c2, zckj (by decide) (by decide)]
      dsimp only [zlet]
      rw [hM.1.2.2.1 2 (by omega)]
  by_cases c3 : x1 = 3
  · refine key (wN w 3) ?_ ?_
    · unfold fX_about
      rw [if_neg c0, if_neg c1, if_neg c2, if_pos c3]
      dsimp only [zlet]
      rw [hX.1.2.2.2.2.2.1]
    · unfold fM_about
      rw [mIn_f (by omega), if_pos rfl, mIn_f (by omega), if_pos rfl, mIn_f (by omega), if_pos rfl, mIn_f (by omega), if_pos rfl, if_neg c0, if_neg c1, if_neg c2, if_pos c3, zckj (by decide) (by decide)]
      dsimp only [zlet]
      rw [hM.1.2.2.1 3 (by omega)]
  by_cases c4 : x1 = 4
  · refine key (p.1 : Int) ?_ ?_
    · unfold fX_about
      rw [if_neg c0, if_neg c1, if_neg c2, if_neg c3, if_pos c4]
      dsimp only [zlet]
      rw [hXT.1]
    · unfold fM_about
      rw [mIn_f (by omega), if_pos rfl, mIn_f (by omega), if_pos rfl, mIn_f (by omega), if_pos rfl, mIn_f (by omega), if_pos rfl, if_neg c0, if_neg c1, if_neg c2, if_neg c3, if_pos c4]
      dsimp only [zlet]
      rw [hMP.1]
  have hXa : ∀ a : Int, fX_aboutOne σ x1 = some (a, σ) → zw a = a → fX_about σ x1 = some (a, σ) := by
    intro a e hz
    unfold fX_about
    rw [if_neg c0, if_neg c1, if_neg c2, if_neg c3, if_neg c4, zbi_eq e, hz]
  by_cases d1 : 10 ≤ x1 ∧ x1 ≤ 13
  · obtain ⟨y, hy, hy4⟩ : ∃ y : Nat, x1 = (y : Int) + 10 ∧ y < 4 := ⟨(x1 - 10).toNat, by omega, by omega⟩
    have e10 : zw (x1 - 10) = (y : Int) := by rw [zwj (by omega) (by omega)]; omega
    have hpl := plen_le (wV w) y
    refine key (plen (wV w) y : Int) (hXa _ ?_ (zwj (by omega) (by omega))) ?_
    · unfold fX_aboutOne
      rw [pwithin_t d1, if_neg (by decide), e10, zbi_eq (qS_lengthOf (Or.inl rfl) σ (wV w) hX.1.1 y hy4), zwj (a := (plen (wV w) y : Int)) (by omega) (by omega)]
    · unfold fM_about
      rw [mIn_t d1, if_neg (by decide), e10, zbi_eq (qM_lengthOf g.1.1 y hy4 σ hM.1.1), zwj (a := (plen (wV w) y : Int)) (by omega) (by omega)]
  by_cases d2 : 20 ≤ x1 ∧ x1 ≤ 23
  · obtain ⟨y, hy, hy4⟩ : ∃ y : Nat, x1 = (y : Int) + 20 ∧ y < 4 := ⟨(x1 - 20).toNat, by omega, by omega⟩
    have hh := g.1.2.2.2.2.2.2.1 y hy4
    refine key (wN w (10 + y)) (hXa _ ?_ (zwj (by omega) (by omega))) ?_
    · unfold fX_aboutOne
      rw [pwithin_f d1, if_pos rfl, pwithin_t d2, if_neg (by decide), show zw (x1 - 20) = (y : Int) by rw [zwj (by omega) (by omega)]; omega, zckj (by omega) (by omega)]
      dsimp only [zlet]
      rw [Int.toNat_natCast, hX.1.2.2.2.2.2.2.1 y hy4]
    · unfold fM_about
      rw [mIn_f d1, if_pos rfl, mIn_t d2, if_neg (by decide), show zw (610 + x1 - 20) = ((610 + y : Nat) : Int) by rw [zwj (by omega) (by omega)]; omega, zckj (by omega) (by omega)]
      dsimp only [zlet]
      rw [Int.toNat_natCast, hM.1.2.2.2.1 y hy4]
  by_cases d3 : 30 ≤ x1 ∧ x1 ≤ 35
  · obtain ⟨y, hy, hy6⟩ : ∃ y : Nat, x1 = (y : Int) + 30 ∧ y < 6 := ⟨(x1 - 30).toNat, by omega, by omega⟩
    obtain ⟨b1, b2, b3⟩ := xSub g hX hy6
    have hl := lbt_le (wU w y)
    have e30 : zw (x1 - 30) = (y : Int) := by rw [zwj (by omega) (by omega)]; omega
    refine key (lbt (wU w y) : Int) (hXa _ ?_ (zwj (by omega) (by omega))) ?_
    · unfold fX_aboutOne
      rw [pwithin_f d1, if_pos rfl, pwithin_f d2, if_pos rfl, pwithin_t d3, if_neg (by decide), e30, zckj (by omega) (by omega), Int.toNat_natCast, b2, zbi_eq (qL_beats b3 (by omega) σ), b1.2.2.1, zwj (a := (lbt (wU w y) : Int)) (by omega) (by omega)]
    · unfold fM_about
      rw [mIn_f d1, if_pos rfl, mIn_f d2, if_pos rfl, mIn_t d3, if_neg (by decide), e30, zbi_eq (qM_beatsOf g.1.2.1 y hy6 σ hM.1.2.1), zwj (a := (lbt (wU w y) : Int)) (by omega) (by omega)]
  by_cases d4 : 0 ≤ x1 - 40 ∧ x1 - 40 < wN w 1
  · obtain ⟨y, hy, hy6⟩ : ∃ y : Nat, x1 = (y : Int) + 40 ∧ y < 6 := ⟨(x1 - 40).toNat, by omega, by omega⟩
    have hh := g.1.2.2.2.2.2.2.2.2.2 y hy6
    have e40 : zw (x1 - 40) = (y : Int) := by rw [zwj (by omega) (by omega)]; omega
    refine key (wN w (80 + y)) (hXa _ ?_ (zwj (by omega) (by omega))) ?_
    · unfold fX_aboutOne
      rw [pwithin_f d1, if_pos rfl, pwithin_f d2, if_pos rfl, pwithin_f d3, if_pos rfl]
      dsimp only [zlet]
      rw [hX.1.2.2.2.1, pwithin_t (by rw [zwj (by omega) (by omega)]; omega), if_neg (by decide), e40, zckj (by omega) (by omega), Int.toNat_natCast, hX.1.2.2.2.2.2.2.2.2.2.2 y hy6]
    · unfold fM_about
      rw [mIn_f d1, if_pos rfl, mIn_f d2, if_pos rfl, mIn_f d3, if_pos rfl, mIn_t (by omega), if_neg (by decide), e40, mText_t g hM (by omega), if_neg (by decide), show zw (690 + x1 - 40) = ((690 + y : Nat) : Int) by rw [zwj (by omega) (by omega)]; omega, zckj (by omega) (by omega)]
      dsimp only [zlet]
      rw [Int.toNat_natCast, hM.1.2.2.2.2.2.2 y hy6]
  · refine key (-2) (hXa _ ?_ rfl) ?_
    · unfold fX_aboutOne
      rw [pwithin_f d1, if_pos rfl, pwithin_f d2, if_pos rfl, pwithin_f d3, if_pos rfl]
      dsimp only [zlet]
      rw [hX.1.2.2.2.1, pwithin_f (by rw [zwj (by omega) (by omega)]; omega), if_pos rfl]
    · unfold fM_about
      rw [mIn_f d1, if_pos rfl, mIn_f d2, if_pos rfl, mIn_f d3, if_pos rfl]
      by_cases d5 : 40 ≤ x1 ∧ x1 ≤ 45
      · rw [mIn_t d5, if_neg (by decide), zwj (a := x1 - 40) (by omega) (by omega), mText_f g hM d4, if_pos rfl]
      · rw [mIn_f d5, if_pos rfl, if_neg c0, if_neg c1, if_neg c2, if_neg c3, if_neg c4]

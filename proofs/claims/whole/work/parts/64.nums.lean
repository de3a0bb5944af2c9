/-! MY OWN: bar, hand, weight, shape, page -/
def dX (q : Nat) : Prop := q = 1 ∨ (1 + 3 ≤ q ∧ q ≤ 1 + 7)
def wNew (w : Wd) (N : Nat → Int) : Wd := ((wV w, wU w, N), w.2)
theorem Inv_num {w : Wd} {p : Tp} {σ σ1 σ2 : Zm} (g : GI w) (gp : GT p) (hX : XI w σ) (hM : MI w σ) (hXT : XT p σ) (hMP : MP p σ) {N : Nat → Int} (hW : WS (wV w) (wU w) N) (h1 : N 1 = wN w 1) (f1 : zfo dX σ σ1) (hx : XN 1 σ1 N) (f2 : zfo (oO 274) σ1 σ2) (hm : MS 274 σ2 (wV w) (wU w) N) : Inv σ2 := by
  have f12 : zfo (fun q => dX q ∨ oO 274 q) σ σ2 := (f1.mono (fun q z => Or.inl z)).tr (f2.mono (fun q z => Or.inr z))
  have hx2 : XN 1 σ2 N := XN_fo hx f2 (fun q a b => oO_ne (by omega))
  refine ⟨wNew w N, p, ⟨hW, g.2.1, by show w.2.1.2.2 1 ≤ N 1; rw [h1]; exact g.2.2.1, fun i hi hn => g.2.2.2 i hi (by rw [← h1]; exact hn)⟩, gp, ⟨⟨XV_fo (XV_fo2 hX.1.1 f1) f2 (fun q a b => oO_ne (by omega)), XU_fo (XU_fo2 hX.1.2.1 f1) f2 (fun q a b => oO_ne (by omega)), hx2⟩, XS_fo hX.2.1 f12 (fun q a b => by unfold dX oO; omega), fun i hi hn => TRc_fo f12 (fun j hj => by unfold dX oO; omega) (hX.2.2 i hi (by rw [← h1]; exact hn))⟩, ⟨hm, MS_fo hM.2.1 f12 (by unfold dX oO; omega), fun i hi hn => TRm_fo f12 (by unfold dX oO; omega) (hM.2.2 i hi (by rw [← h1]; exact hn))⟩, XT_fo hXT f12 (by unfold dX oO; omega) (by unfold dX oO; omega) (by unfold dX oO; omega), MP_fo hMP f12 (fun k _ _ => f12.rd (by unfold dX oO; omega) k) (by unfold dX oO; omega)⟩
theorem updN_ne {N : Nat → Int} {n k : Nat} {v : Int} (h : k ≠ n) : updN N n v k = N k := if_neg h
theorem updN_eq {N : Nat → Int} {n : Nat} {v : Int} : updN N n v n = v := if_pos rfl
theorem WS_upd {V U : Nat → Ln} {N : Nat → Int} (h : WS V U N) {n : Nat} {v : Int} (hc : (n = 0 ∧ 1 ≤ v ∧ v ≤ 12) ∨ (n = 1 ∧ 0 ≤ v ∧ v ≤ 6) ∨ (n = 2 ∧ 0 ≤ v ∧ v ≤ 8) ∨ (10 ≤ n ∧ n < 14 ∧ -1 ≤ v ∧ v ≤ 3) ∨ (40 ≤ n ∧ n < 72 ∧ 0 ≤ v ∧ v ≤ 99) ∨ (80 ≤ n ∧ n < 86 ∧ 0 ≤ v ∧ v ≤ 9)) : WS V U (updN N n v) := by
  obtain ⟨h1, h2, h3, h4, h5, h6, h7, h8, h9, h10⟩ := h
  refine ⟨h1, h2, ?_, ?_, ?_, ?_, fun k hk => ?_, fun k hk hk2 => ?_, fun k hk => ?_, fun k hk => ?_⟩
  · unfold updN; split <;> omega
  · unfold updN; split <;> omega
  · unfold updN; split <;> omega
  · unfold updN; split <;> omega
  · have := h7 k hk
    unfold updN; split <;> omega
  · rw [updN_ne (by omega)] at hk2
    rw [updN_ne (by omega), updN_ne (by omega)]
    exact h8 k hk hk2
  · have := h9 k hk
    unfold updN; split <;> omega
  · have := h10 k hk
    unfold updN; split <;> omega
theorem nX_bar {w : Wd} {σ : Zm} (g : GI w) (hX : XI w σ) (x1 : Int) (c : ¬ ((1 ≤ x1 ∧ x1 ≤ 12))) : fX_bar σ x1 = some (0, σ) := by
  unfold fX_bar
  by_cases c0 : 1 ≤ x1 ∧ x1 ≤ 12
  · rw [pwithin_t c0, if_pos (by decide)]
    exact absurd (by grind) c
  · rw [pwithin_f c0, if_neg (by decide)]
theorem nM_bar {w : Wd} {σ : Zm} (g : GI w) (hM : MI w σ) (x1 : Int) (c : ¬ ((1 ≤ x1 ∧ x1 ≤ 12))) : fM_bar σ x1 = some (0, σ) := by
  unfold fM_bar
  by_cases c0 : 1 ≤ x1 ∧ x1 ≤ 12
  · rw [mIn_t c0, if_pos (by decide)]
    exact absurd (by grind) c
  · rw [mIn_f c0, if_neg (by decide)]
theorem st_bar (x1 : Int) : St (fun σ => fX_bar σ x1) (fun σ => fM_bar σ x1) := by
  intro σ h
  have hI := h
  obtain ⟨w, p, g, gp, hX, hM, hXT, hMP⟩ := h
  by_cases c : (1 ≤ x1 ∧ x1 ≤ 12)
  · show zwp (fX_bar σ x1) _
    unfold fX_bar
    rw [pwithin_t c, if_pos (by decide)]
    refine zwp_st (fun σ1 f1 v1 => ?_)
    rw [zwp_some]
    show zwp (fM_bar σ1 x1) _
    unfold fM_bar
    rw [mIn_t c, if_pos (by decide), zckj (by decide) (by decide)]
    refine zwp_st (fun σ2 f2 v2 => ?_)
    rw [zwp_some]
    have hz : zw x1 = x1 := zwj (by omega) (by omega)
    refine ⟨rfl, Inv_num g gp hX hM hXT hMP (WS_upd g.1 (n := 0) (v := x1) (Or.inl ⟨rfl, c⟩)) (updN_ne (by omega)) (f1.mono (fun q z => Or.inl z)) (XN_st hX.1.2.2 (q := 1) (k := 7) (n := 0) (Or.inl ⟨rfl, Or.inl ⟨rfl, rfl⟩⟩) f1 v1 hz) f2 (MS_st (MS_fo hM.1 f1 (oO_ne (by omega))) (k := 0) (n := 0) (Or.inl ⟨rfl, by omega⟩) v2 hz)⟩
  · exact St_neg hI (nX_bar g hX x1 c) (nM_bar g hM x1 c)
theorem nX_hand {w : Wd} {σ : Zm} (g : GI w) (hX : XI w σ) (x1 x2 : Int) (c : ¬ ((0 ≤ x1 ∧ x1 ≤ 3) ∧ ((-1) ≤ x2 ∧ x2 ≤ 3))) : fX_hand σ x1 x2 = some (0, σ) := by
  unfold fX_hand
  by_cases c0 : 0 ≤ x1 ∧ x1 ≤ 3
  · rw [xPiece_t c0, if_neg (by decide)]
    by_cases c1 : (-1) ≤ x2 ∧ x2 ≤ 3
    · rw [pwithin_t c1, if_pos (by decide)]
      exact absurd (by grind) c
    · rw [pwithin_f c1, if_neg (by decide)]
  · rw [xPiece_f c0, if_pos rfl]
theorem nM_hand {w : Wd} {σ : Zm} (g : GI w) (hM : MI w σ) (x1 x2 : Int) (c : ¬ ((0 ≤ x1 ∧ x1 ≤ 3) ∧ ((-1) ≤ x2 ∧ x2 ≤ 3))) : fM_hand σ x1 x2 = some (0, σ) := by
  unfold fM_hand
  by_cases c0 : 0 ≤ x1 ∧ x1 ≤ 3
  · rw [mPiece_t c0, if_neg (by decide)]
    by_cases c1 : (-1) ≤ x2 ∧ x2 ≤ 3
    · rw [mIn_t c1, if_pos (by decide)]
      exact absurd (by grind) c
    · rw [mIn_f c1, if_neg (by decide)]
  · rw [mPiece_f c0, if_pos rfl]
theorem st_hand (x1 x2 : Int) : St (fun σ => fX_hand σ x1 x2) (fun σ => fM_hand σ x1 x2) := by
  intro σ h
  have hI := h
  obtain ⟨w, p, g, gp, hX, hM, hXT, hMP⟩ := h
  by_cases c : (0 ≤ x1 ∧ x1 ≤ 3) ∧ ((-1) ≤ x2 ∧ x2 ≤ 3)
  · obtain ⟨c1, c2⟩ := c
    obtain ⟨y, rfl, hy⟩ := nat_of (x := x1) (n := 4) (by omega)
    show zwp (fX_hand σ (y : Int) x2) _
    unfold fX_hand
    rw [xPiece_t c1, if_neg (by decide), pwithin_t c2, if_pos (by decide), zckj (by omega) (by omega), Int.toNat_natCast]
    refine zwp_st (fun σ1 f1 v1 => ?_)
    rw [zwp_some]
    show zwp (fM_hand σ1 (y : Int) x2) _
    unfold fM_hand
    rw [mPiece_t c1, if_neg (by decide), mIn_t c2, if_pos (by decide), show zw (610 + (y : Int)) = ((610 + y : Nat) : Int) by rw [zwj (by omega) (by omega)]; omega, zckj (by omega) (by omega), Int.toNat_natCast]
    refine zwp_st (fun σ2 f2 v2 => ?_)
    rw [zwp_some]
    have hz : zw x2 = x2 := zwj (by omega) (by omega)
    refine ⟨rfl, Inv_num g gp hX hM hXT hMP (WS_upd g.1 (n := 10 + y) (v := x2) (by omega)) (updN_ne (by omega)) (f1.mono (fun q z => Or.inr (by have : q = 4 := z; omega))) (XN_st hX.1.2.2 (q := 4) (k := y) (n := 10 + y) (by omega) f1 v1 hz) f2 (MS_st (MS_fo hM.1 f1 (oO_ne (by omega))) (k := 610 + y) (n := 10 + y) (Or.inr (Or.inl ⟨y, hy, rfl, rfl⟩)) v2 hz)⟩
  · exact St_neg hI (nX_hand g hX x1 x2 c) (nM_hand g hM x1 x2 c)
theorem nX_weight {w : Wd} {σ : Zm} (g : GI w) (hX : XI w σ) (x1 x2 : Int) (c : ¬ ((0 ≤ x1 ∧ x1 < wN w 1) ∧ (0 ≤ x2 ∧ x2 ≤ 9))) : fX_weight σ x1 x2 = some (0, σ) := by
  unfold fX_weight
  by_cases c0 : 0 ≤ x1 ∧ x1 < wN w 1
  · rw [xText_t g hX c0, if_neg (by decide)]
    by_cases c1 : 0 ≤ x2 ∧ x2 ≤ 9
    · rw [pwithin_t c1, if_pos (by decide)]
      exact absurd (by grind) c
    · rw [pwithin_f c1, if_neg (by decide)]
  · rw [xText_f g hX c0, if_pos rfl]
theorem nM_weight {w : Wd} {σ : Zm} (g : GI w) (hM : MI w σ) (x1 x2 : Int) (c : ¬ ((0 ≤ x1 ∧ x1 < wN w 1) ∧ (0 ≤ x2 ∧ x2 ≤ 9))) : fM_weight σ x1 x2 = some (0, σ) := by
  unfold fM_weight
  by_cases c0 : 0 ≤ x1 ∧ x1 < wN w 1
  · rw [mText_t g hM c0, if_neg (by decide)]
    by_cases c1 : 0 ≤ x2 ∧ x2 ≤ 9
    · rw [mIn_t c1, if_pos (by decide)]
      exact absurd (by grind) c
    · rw [mIn_f c1, if_neg (by decide)]
  · rw [mText_f g hM c0, if_pos rfl]
theorem st_weight (x1 x2 : Int) : St (fun σ => fX_weight σ x1 x2) (fun σ => fM_weight σ x1 x2) := by
  intro σ h
  have hI := h
  obtain ⟨w, p, g, gp, hX, hM, hXT, hMP⟩ := h
  by_cases c : (0 ≤ x1 ∧ x1 < wN w 1) ∧ (0 ≤ x2 ∧ x2 ≤ 9)
  · obtain ⟨c1, c2⟩ := c
    have hn := (GI_n g).2.1
    obtain ⟨y, rfl, hy⟩ := nat_of (x := x1) (n := 6) (by omega)
    show zwp (fX_weight σ (y : Int) x2) _
    unfold fX_weight
    rw [xText_t g hX c1, if_neg (by decide), pwithin_t c2, if_pos (by decide), zckj (by omega) (by omega), Int.toNat_natCast]
    refine zwp_st (fun σ1 f1 v1 => ?_)
    rw [zwp_some]
    have hM1 : MI w σ1 := MI_fo hM f1 (oO_ne (by omega)) (oO_ne (by omega)) (oO_ne (by omega))
    show zwp (fM_weight σ1 (y : Int) x2) _
    unfold fM_weight
    rw [mText_t g hM1 c1, if_neg (by decide), mIn_t c2, if_pos (by decide), show zw (690 + (y : Int)) = ((690 + y : Nat) : Int) by rw [zwj (by omega) (by omega)]; omega, zckj (by omega) (by omega), Int.toNat_natCast]
    refine zwp_st (fun σ2 f2 v2 => ?_)
    rw [zwp_some]
    have hz : zw x2 = x2 := zwj (by omega) (by omega)
    refine ⟨rfl, Inv_num g gp hX hM hXT hMP (WS_upd g.1 (n := 80 + y) (v := x2) (by omega)) (updN_ne (by omega)) (f1.mono (fun q z => Or.inr (by have : q = 5 := z; omega))) (XN_st hX.1.2.2 (q := 5) (k := y) (n := 80 + y) (by omega) f1 v1 hz) f2 (MS_st hM1.1 (k := 690 + y) (n := 80 + y) (Or.inr (Or.inr (Or.inr (Or.inr (Or.inr ⟨y, hy, rfl, rfl⟩))))) v2 hz)⟩
  · exact St_neg hI (nX_weight g hX x1 x2 c) (nM_weight g hM x1 x2 c)
theorem WS_shape {V U : Nat → Ln} {N : Nat → Int} (h : WS V U N) {m : Nat} (hm : N 3 = (m : Int)) (hm10 : m < 10) {a b : Int} (ha : 1 ≤ a ∧ a ≤ b) (hb : b ≤ 9999) : WS V U (updN (updN (updN N (20 + m) a) (30 + m) b) 3 ((m : Int) + 1)) := by
  obtain ⟨h1, h2, h3, h4, h5, h6, h7, h8, h9, h10⟩ := h
  refine ⟨h1, h2, ?_, ?_, ?_, ?_, fun k hk => ?_, fun k hk hk2 => ?_, fun k hk => ?_, fun k hk => ?_⟩
  · rw [updN_ne (by omega), updN_ne (by omega), updN_ne (by omega)]; exact h3
  · rw [updN_ne (by omega), updN_ne (by omega), updN_ne (by omega)]; exact h4
  · rw [updN_ne (by omega), updN_ne (by omega), updN_ne (by omega)]; exact h5
  · rw [updN_eq]; omega
  · rw [updN_ne (by omega), updN_ne (by omega), updN_ne (by omega)]; exact h7 k hk
  · rw [updN_eq] at hk2
    rw [updN_ne (by omega), updN_ne (by omega), updN_ne (show 30 + k ≠ 3 by omega)]
    by_cases q : k = m
    · subst q
      rw [updN_eq, updN_eq]
      omega
    · rw [updN_ne (by omega), updN_ne (by omega), updN_ne (by omega)]
      exact h8 k hk (by omega)
  · rw [updN_ne (by omega), updN_ne (by omega), updN_ne (by omega)]; exact h9 k hk
  · rw [updN_ne (by omega), updN_ne (by omega), updN_ne (by omega)]; exact h10 k hk
theorem st_shape (x1 x2 : Int) : St (fun σ => fX_shape σ x1 x2) (fun σ => fM_shape σ x1 x2) := by
  intro σ h
  have hI := h
  obtain ⟨w, p, g, gp, hX, hM, hXT, hMP⟩ := h
  show zwp (fX_shape σ x1 x2) (fun r1 σ1 => zwp (fM_shape σ1 x1 x2) (fun r2 σ2 => r1 = r2 ∧ Inv σ2))
  have hn := (GI_n g).2.2.2
  obtain ⟨m, hm⟩ : ∃ m : Nat, wN w 3 = (m : Int) := ⟨(wN w 3).toNat, by omega⟩
  have h9 : zrd σ 1 9 = (m : Int) := by rw [hX.1.2.2.2.2.2.1, hm]
  have h3 : zrd σ 274 3 = (m : Int) := by rw [hM.1.2.2.1 3 (by omega), hm]
  by_cases c : m < 10 ∧ (1 ≤ x2 ∧ x2 ≤ 9999) ∧ (1 ≤ x1 ∧ x1 ≤ x2)
  · obtain ⟨c0, c1, c2⟩ := c
    have hz1 : zw x1 = x1 := zwj (by omega) (by omega)
    have hz2 : zw x2 = x2 := zwj (by omega) (by omega)
    have hz3 : zw ((m : Int) + 1) = (m : Int) + 1 := zwj (by omega) (by omega)
    unfold fX_shape
    rw [zwp_let, h9, if_neg (by omega), pwithin_t c1, if_neg (by decide), pwithin_t c2, if_pos (by decide), zwp_let, h9, zckj (by omega) (by omega), Int.toNat_natCast]
    refine zwp_st (fun σ1 f1 v1 => ?_)
    have h91 : zrd σ1 1 9 = (m : Int) := by rw [f1.rd (oO_ne (by omega)), h9]
    rw [zwp_let, h91, zckj (by omega) (by omega), Int.toNat_natCast]
    refine zwp_st (fun σ2 f2 v2 => ?_)
    have h92 : zrd σ2 1 9 = (m : Int) := by rw [f2.rd (oO_ne (by omega)), h91]
    rw [zwp_let, h92]
    refine zwp_st (fun σ3 f3 v3 => ?_)
    have x1' := XN_st hX.1.2.2 (q := 6) (k := m) (n := 20 + m) (by omega) f1 v1 hz1
    have x2' := XN_st x1' (q := 7) (k := m) (n := 30 + m) (by omega) f2 v2 hz2
    have x3' := XN_st x2' (q := 1) (k := 9) (n := 3) (by omega) f3 v3 hz3
    have f13 : zfo dX σ σ3 := ((f1.mono (fun q z => Or.inr (by have : q = 6 := z; omega))).tr (f2.mono (fun q z => Or.inr (by have : q = 7 := z; omega)))).tr (f3.mono (fun q z => Or.inl z))
    rw [zwp_let, zwp_some, v3 9, if_pos rfl, hz3]
    have m0 : MS 274 σ3 (wV w) (wU w) (wN w) := MS_fo hM.1 f13 (by unfold dX; omega)
    have h33 : zrd σ3 274 3 = (m : Int) := by rw [f13.rd (by unfold dX; omega), h3]
    unfold fM_shape
    rw [mIn_t c1, if_neg (by decide), mIn_t c2, if_neg (by decide), zckj (by decide) (by decide), zwp_let, h33, if_pos (by omega), zckj (by decide) (by decide), zwp_let, show zw (620 + 2 * (m : Int)) = ((620 + 2 * m : Nat) : Int) by rw [zwj (by omega) (by omega)]; omega, zckj (by omega) (by omega), Int.toNat_natCast]
    refine zwp_st (fun σ4 f4 v4 => ?_)
    have h34 : zrd σ4 274 3 = (m : Int) := by rw [v4 3, if_neg (by omega), h33]
    have m1 := MS_st m0 (k := 620 + 2 * m) (n := 20 + m) (Or.inr (Or.inr (Or.inl ⟨m, c0, rfl, rfl⟩))) v4 hz1
    rw [zckj (by decide) (by decide), zwp_let, h34, show zw (620 + 2 * (m : Int) + 1) = ((620 + 2 * m + 1 : Nat) : Int) by rw [zwj (by omega) (by omega)]; omega, zckj (by omega) (by omega), Int.toNat_natCast]
    refine zwp_st (fun σ5 f5 v5 => ?_)
    have h35 : zrd σ5 274 3 = (m : Int) := by rw [v5 3, if_neg (by omega), h34]
    have m2 := MS_st m1 (k := 620 + 2 * m + 1) (n := 30 + m) (Or.inr (Or.inr (Or.inr (Or.inl ⟨m, c0, rfl, rfl⟩)))) v5 hz2
    rw [zckj (by decide) (by decide), zwp_let, h35, zckj (by decide) (by decide)]
    refine zwp_st (fun σ6 f6 v6 => ?_)
    have m3 := MS_st m2 (k := 3) (n := 3) (Or.inl ⟨rfl, by omega⟩) v6 hz3
    rw [zckj (by decide) (by decide), zwp_let, zwp_some, v6 3, if_pos rfl, hz3]
    exact ⟨rfl, Inv_num g gp hX hM hXT hMP (WS_shape g.1 hm c0 c2 c1.2) (by rw [updN_ne (by omega), updN_ne (by omega), updN_ne (by omega)]) f13 x3' ((f4.tr f5).tr f6) m3⟩
  · have e1 : fX_shape σ x1 x2 = some (-1, σ) := by
      unfold fX_shape
      dsimp only [zlet]
      rw [h9]
      by_cases c0 : m < 10
      · rw [if_neg (by omega)]
        by_cases c1 : 1 ≤ x2 ∧ x2 ≤ 9999
        · rw [pwithin_t c1, if_neg (by decide)]
          rw [pwithin_f (fun z => c ⟨c0, c1, z⟩), if_neg (by decide)]
        · rw [pwithin_f c1, if_pos rfl]
      · rw [if_pos (by omega)]
    have e2 : fM_shape σ x1 x2 = some (-1, σ) := by
      unfold fM_shape
      by_cases c1 : 1 ≤ x2 ∧ x2 ≤ 9999
      · rw [mIn_t c1, if_neg (by decide)]
        by_cases c2 : 1 ≤ x1 ∧ x1 ≤ x2
        · rw [mIn_t c2, if_neg (by decide), zckj (by decide) (by decide)]
          dsimp only [zlet]
          rw [h3, if_neg (by omega)]
        · rw [mIn_f c2, if_pos rfl]
      · rw [mIn_f c1, if_pos rfl]
    exact St_neg (G := fun σ => fM_shape σ x1 x2) hI e1 e2
theorem st_page (x1 x2 x3 x4 : Int) : St (fun σ => fX_page σ x1 x2 x3 x4) (fun σ => fM_page σ x1 x2 x3 x4) := by
  intro σ h
  have hI := h
  obtain ⟨w, p, g, gp, hX, hM, hXT, hMP⟩ := h
  show zwp (fX_page σ x1 x2 x3 x4) (fun r1 σ1 => zwp (fM_page σ1 x1 x2 x3 x4) (fun r2 σ2 => r1 = r2 ∧ Inv σ2))
  have hn := (GI_n g).2.2.1
  obtain ⟨m, hm⟩ : ∃ m : Nat, wN w 2 = (m : Int) := ⟨(wN w 2).toNat, by omega⟩
  have h9 : zrd σ 1 10 = (m : Int) := by rw [hX.1.2.2.2.2.1, hm]
  have h3 : zrd σ 274 2 = (m : Int) := by rw [hM.1.2.2.1 2 (by omega), hm]
  by_cases c : m < 8 ∧ (0 ≤ x1 ∧ x1 ≤ 99) ∧ (0 ≤ x2 ∧ x2 ≤ 9) ∧ (0 ≤ x3 ∧ x3 ≤ 9) ∧ (0 ≤ x4 ∧ x4 ≤ 9)
  · obtain ⟨c0, c1, c2, c3, c4⟩ := c
    have hz1 : zw x1 = x1 := zwj (by omega) (by omega)
    have hz2 : zw x2 = x2 := zwj (by omega) (by omega)
    have hz3 : zw x3 = x3 := zwj (by omega) (by omega)
    have hz4 : zw x4 = x4 := zwj (by omega) (by omega)
    have hz5 : zw ((m : Int) + 1) = (m : Int) + 1 := zwj (by omega) (by omega)
    unfold fX_page
    rw [zwp_let, h9, if_neg (by omega), pwithin_t c1, if_neg (by decide), pwithin_t c2, if_pos (by decide), pwithin_t c3, if_neg (by decide), pwithin_t c4, if_pos (by decide), zwp_let, h9, zwp_let, show zw ((m : Int) * 4) = ((4 * m : Nat) : Int) by rw [zwj (by omega) (by omega)]; omega, show zw (((4 * m : Nat) : Int) + 1) = ((4 * m + 1 : Nat) : Int) by rw [zwj (by omega) (by omega)]; omega, show zw (((4 * m : Nat) : Int) + 2) = ((4 * m + 2 : Nat) : Int) by rw [zwj (by omega) (by omega)]; omega, show zw (((4 * m : Nat) : Int) + 3) = ((4 * m + 3 : Nat) : Int) by rw [zwj (by omega) (by omega)]; omega, zckj (by omega) (by omega), Int.toNat_natCast]
    refine zwp_st (fun σ1 f1 v1 => ?_)
    rw [zckj (by omega) (by omega)]
    refine zwp_st (fun σ2 f2 v2 => ?_)
    rw [zckj (by omega) (by omega)]
    refine zwp_st (fun σ3 f3 v3 => ?_)
    rw [zckj (by omega) (by omega)]
    refine zwp_st (fun σ4 f4 v4 => ?_)
    have f14 : zfo (oO 8) σ σ4 := ((f1.tr f2).tr f3).tr f4
    have h94 : zrd σ4 1 10 = (m : Int) := by rw [f14.rd (oO_ne (by omega)), h9]
    rw [zwp_let, h94]
    refine zwp_st (fun σ5 f5 v5 => ?_)
    rw [Int.toNat_natCast] at v2 v3 v4
    have x1' := XN_st hX.1.2.2 (q := 8) (k := 4 * m) (n := 40 + 4 * m) (by omega) f1 v1 hz1
    have x2' := XN_st x1' (q := 8) (k := 4 * m + 1) (n := 40 + 4 * m + 1) (by omega) f2 v2 hz2
    have x3' := XN_st x2' (q := 8) (k := 4 * m + 2) (n := 40 + 4 * m + 2) (by omega) f3 v3 hz3
    have x4' := XN_st x3' (q := 8) (k := 4 * m + 3) (n := 40 + 4 * m + 3) (by omega) f4 v4 hz4
    have x5' := XN_st x4' (q := 1) (k := 10) (n := 2) (by omega) f5 v5 hz5
    have f15 : zfo dX σ σ5 := (f14.mono (fun q z => Or.inr (by have : q = 8 := z; omega))).tr (f5.mono (fun q z => Or.inl z))
    rw [zwp_let, zwp_some, v5 10, if_pos rfl, hz5]
    have m0 : MS 274 σ5 (wV w) (wU w) (wN w) := MS_fo hM.1 f15 (by unfold dX; omega)
    have h35 : zrd σ5 274 2 = (m : Int) := by rw [f15.rd (by unfold dX; omega), h3]
    unfold fM_page
    rw [mIn_t c1, if_neg (by decide), mIn_t c2, if_neg (by decide), mIn_t c3, if_neg (by decide), mIn_t c4, if_neg (by decide), zckj (by decide) (by decide), zwp_let, h35, if_pos (by omega), zckj (by decide) (by decide), zwp_let, zwp_let, show zw (650 + 4 * (m : Int)) = ((650 + 4 * m : Nat) : Int) by rw [zwj (by omega) (by omega)]; omega, show zw (((650 + 4 * m : Nat) : Int) + 1) = ((650 + (4 * m + 1) : Nat) : Int) by rw [zwj (by omega) (by omega)]; omega, show zw (((650 + 4 * m : Nat) : Int) + 2) = ((650 + (4 * m + 2) : Nat) : Int) by rw [zwj (by omega) (by omega)]; omega, show zw (((650 + 4 * m : Nat) : Int) + 3) = ((650 + (4 * m + 3) : Nat) : Int) by rw [zwj (by omega) (by omega)]; omega, zckj (by omega) (by omega)]
    refine zwp_st (fun σ6 f6 v6 => ?_)
    rw [zckj (by omega) (by omega)]
    refine zwp_st (fun σ7 f7 v7 => ?_)
    rw [zckj (by omega) (by omega)]
    refine zwp_st (fun σ8 f8 v8 => ?_)
    rw [zckj (by omega) (by omega)]
    refine zwp_st (fun σ9 f9 v9 => ?_)
    rw [Int.toNat_natCast] at v6 v7 v8 v9
    have m1 := MS_st m0 (k := 650 + 4 * m) (n := 40 + 4 * m) (Or.inr (Or.inr (Or.inr (Or.inr (Or.inl ⟨4 * m, by omega, rfl, rfl⟩))))) v6 hz1
    have m2 := MS_st m1 (k := 650 + (4 * m + 1)) (n := 40 + 4 * m + 1) (Or.inr (Or.inr (Or.inr (Or.inr (Or.inl ⟨4 * m + 1, by omega, rfl, rfl⟩))))) v7 hz2
    have m3 := MS_st m2 (k := 650 + (4 * m + 2)) (n := 40 + 4 * m + 2) (Or.inr (Or.inr (Or.inr (Or.inr (Or.inl ⟨4 * m + 2, by omega, rfl, rfl⟩))))) v8 hz3
    have m4 := MS_st m3 (k := 650 + (4 * m + 3)) (n := 40 + 4 * m + 3) (Or.inr (Or.inr (Or.inr (Or.inr (Or.inl ⟨4 * m + 3, by omega, rfl, rfl⟩))))) v9 hz4
    have h39 : zrd σ9 274 2 = (m : Int) := by rw [v9 2, if_neg (by omega), v8 2, if_neg (by omega), v7 2, if_neg (by omega), v6 2, if_neg (by omega), h35]
    rw [zckj (by decide) (by decide), zwp_let, h39, zckj (by decide) (by decide)]
    refine zwp_st (fun σa fa va => ?_)
    have m5 := MS_st m4 (k := 2) (n := 2) (Or.inl ⟨rfl, by omega⟩) va hz5
    rw [zckj (by decide) (by decide), zwp_let, zwp_some, va 2, if_pos rfl, hz5]
    have w1 := WS_upd g.1 (n := 40 + 4 * m) (v := x1) (by omega)
    have w2 := WS_upd w1 (n := 40 + 4 * m + 1) (v := x2) (by omega)
    have w3 := WS_upd w2 (n := 40 + 4 * m + 2) (v := x3) (by omega)
    have w4 := WS_upd w3 (n := 40 + 4 * m + 3) (v := x4) (by omega)
    have w5 := WS_upd w4 (n := 2) (v := (m : Int) + 1) (by omega)
    exact ⟨rfl, Inv_num g gp hX hM hXT hMP w5 (by rw [updN_ne (by omega), updN_ne (by omega), updN_ne (by omega), updN_ne (by omega), updN_ne (by omega)]) f15 x5' ((((f6.tr f7).tr f8).tr f9).tr fa) m5⟩
  · have e1 : fX_page σ x1 x2 x3 x4 = some (-1, σ) := by
      unfold fX_page
      dsimp only [zlet]
      rw [h9]
      by_cases c0 : m < 8
      · rw [if_neg (by omega)]
        by_cases c1 : 0 ≤ x1 ∧ x1 ≤ 99
        · rw [pwithin_t c1, if_neg (by decide)]
          by_cases c2 : 0 ≤ x2 ∧ x2 ≤ 9
          · rw [pwithin_t c2, if_pos (by decide)]
            by_cases c3 : 0 ≤ x3 ∧ x3 ≤ 9
            · rw [pwithin_t c3, if_neg (by decide)]
              rw [pwithin_f (fun z => c ⟨c0, c1, c2, c3, z⟩), if_neg (by decide)]
            · rw [pwithin_f c3, if_pos rfl]
          · rw [pwithin_f c2, if_neg (by decide)]
        · rw [pwithin_f c1, if_pos rfl]
      · rw [if_pos (by omega)]
    have e2 : fM_page σ x1 x2 x3 x4 = some (-1, σ) := by
      unfold fM_page
      by_cases c1 : 0 ≤ x1 ∧ x1 ≤ 99
      · rw [mIn_t c1, if_neg (by decide)]
        by_cases c2 : 0 ≤ x2 ∧ x2 ≤ 9
        · rw [mIn_t c2, if_neg (by decide)]
          by_cases c3 : 0 ≤ x3 ∧ x3 ≤ 9
          · rw [mIn_t c3, if_neg (by decide)]
            by_cases c4 : 0 ≤ x4 ∧ x4 ≤ 9
            · rw [mIn_t c4, if_neg (by decide), zckj (by decide) (by decide)]
              dsimp only [zlet]
              rw [h3, if_neg (by omega)]
            · rw [mIn_f c4, if_pos rfl]
          · rw [mIn_f c3, if_pos rfl]
        · rw [mIn_f c2, if_pos rfl]
      · rw [mIn_f c1, if_pos rfl]
    exact St_neg (G := fun σ => fM_page σ x1 x2 x3 x4) hI e1 e2

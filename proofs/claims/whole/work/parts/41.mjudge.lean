/-! MY OWN: the reference's sheet and what it judges -/
def ms (σ : Zm) (v : Nat) : Ln := fun t => if t < 32 ∧ zrd σ 282 (32 * v + t) ≠ -1000 then ((if zrd σ 283 (32 * v + t) ≠ 0 then 1 else 2), zrd σ 282 (32 * v + t)) else (0, 0)
def mwf (σ : Zm) : Prop := ∀ j, j < 128 → (zrd σ 283 j = 0 ∨ zrd σ 283 j = 1) ∧ (zrd σ 282 j = -1000 → zrd σ 283 j = 0)
def MV (A : Nat → Ln) (σ : Zm) : Prop := mwf σ ∧ ∀ v, v < 4 → ms σ v = A v
theorem MV_fo {D : Nat → Prop} {A : Nat → Ln} {σ σ1 : Zm} (h : MV A σ) (hf : zfo D σ σ1) (h1 : ¬ D 282) (h2 : ¬ D 283) : MV A σ1 := by
  obtain ⟨q1, q2⟩ := h
  refine ⟨fun j hj => by rw [hf.rd h1, hf.rd h2]; exact q1 j hj, fun v hv => ?_⟩
  rw [← q2 v hv]
  funext t
  unfold ms
  rw [hf.rd h1, hf.rd h2]
theorem qM_sounds {A : Nat → Ln} {σ : Zm} (h : MV A σ) {v : Nat} (hv : v < 4) (x : Int) (hx : -2147483648 ≤ x ∧ x < 32) : fM_sounds σ (v : Int) x = some (lsi (A v) x, σ) := by
  unfold fM_sounds lsi
  by_cases c : x < 0
  · rw [if_pos c, if_neg (by omega)]
  · obtain ⟨t, rfl⟩ : ∃ t : Nat, x = (t : Int) := ⟨x.toNat, by omega⟩
    rw [if_neg c, show zw (32 * (v : Int) + (t : Int)) = ((32 * v + t : Nat) : Int) by rw [zwj (by omega) (by omega)]; omega, zckj (by omega) (by omega)]
    simp only [zlet, Int.toNat_natCast]
    rw [← h.2 v hv]
    unfold ms
    by_cases c2 : zrd σ 282 (32 * v + t) = -1000
    · rw [if_pos c2, if_neg (by rw [if_neg (fun q => q.2 c2)]; simp)]
    · rw [if_neg c2, if_pos]
      refine ⟨by omega, ?_⟩
      rw [if_pos ⟨by omega, c2⟩]
      show (if _ then (1 : Int) else 2) ≠ 0
      split <;> decide
theorem qM_pitchAt {A : Nat → Ln} {σ : Zm} (h : MV A σ) {v : Nat} (hv : v < 4) (t : Nat) (ht : t < 32) (hs : (A v t).1 ≠ 0) : fM_pitchAt σ (v : Int) (t : Int) = some ((A v t).2, σ) := by
  unfold fM_pitchAt
  rw [show zw (32 * (v : Int) + (t : Int)) = ((32 * v + t : Nat) : Int) by rw [zwj (by omega) (by omega)]; omega, zckj (by omega) (by omega)]
  simp only [zlet, Int.toNat_natCast]
  rw [← h.2 v hv] at hs ⊢
  unfold ms at hs ⊢
  by_cases c2 : zrd σ 282 (32 * v + t) = -1000
  · rw [if_neg (fun q => q.2 c2)] at hs
    exact absurd rfl hs
  · rw [if_pos ⟨ht, c2⟩]
theorem qM_beginsAt {A : Nat → Ln} {σ : Zm} (h : MV A σ) {v : Nat} (hv : v < 4) (t : Nat) (ht : t < 32) : fM_beginsAt σ (v : Int) (t : Int) = some (if (A v t).1 = 1 then 1 else 0, σ) := by
  unfold fM_beginsAt
  rw [show zw (32 * (v : Int) + (t : Int)) = ((32 * v + t : Nat) : Int) by rw [zwj (by omega) (by omega)]; omega, zckj (by omega) (by omega)]
  simp only [zlet, Int.toNat_natCast]
  obtain ⟨q1, q2⟩ := h.1 (32 * v + t) (by omega)
  rw [← h.2 v hv]
  by_cases c2 : zrd σ 282 (32 * v + t) = -1000
  · have e : ms σ v t = (0, 0) := by unfold ms; rw [if_neg (fun q => q.2 c2)]
    rw [e, q2 c2, zb_0, if_neg (by decide)]
  · have e : ms σ v t = ((if zrd σ 283 (32 * v + t) ≠ 0 then 1 else 2), zrd σ 282 (32 * v + t)) := by unfold ms; rw [if_pos ⟨ht, c2⟩]
    rw [e]
    rcases q1 with q | q
    · rw [q, zb_0]
      rfl
    · rw [q, zb_1]
      rfl
theorem ite01_w {c : Prop} {dc : Decidable c} : zw (if c then 1 else 0) = if c then 1 else 0 := by split <;> decide
theorem qM_moves {A : Nat → Ln} {σ : Zm} (h : MV A σ) (hsm : ∀ v, v < 4 → lsm (A v)) {v : Nat} (hv : v < 4) (t : Nat) (ht : t < 32) : fM_moves σ (v : Int) (t : Int) = some (if (A v t).1 = 1 ∧ 1 ≤ t ∧ (A v (t - 1)).1 ≠ 0 then (A v t).2 - (A v (t - 1)).2 else 0, σ) := by
  have b1 := hsm v hv t
  have b2 := hsm v hv (t - 1)
  unfold fM_moves
  rw [zbi_eq (qM_beginsAt h hv t ht), ite01_w]
  by_cases c1 : (A v t).1 = 1
  · rw [if_pos c1, if_neg (by decide), zwj (a := (t : Int) - 1) (by omega) (by omega), zbi_eq (qM_sounds h hv _ (by omega)), lsi_w]
    unfold lsi
    by_cases c2 : 1 ≤ t ∧ (A v (t - 1)).1 ≠ 0
    · rw [if_pos (show 0 ≤ (t : Int) - 1 ∧ (A v ((t : Int) - 1).toNat).1 ≠ 0 by rw [show ((t : Int) - 1).toNat = t - 1 by omega]; exact ⟨by omega, c2.2⟩), if_neg (by decide), zbi_eq (qM_pitchAt h hv t ht (by rw [c1]; decide)), show (t : Int) - 1 = ((t - 1 : Nat) : Int) by omega, zbi_eq (qM_pitchAt h hv (t - 1) (by omega) c2.2), if_pos ⟨c1, c2.1, c2.2⟩, zwj (by omega) (by omega), zwj (by omega) (by omega)]
    · rw [if_neg (show ¬ (0 ≤ (t : Int) - 1 ∧ (A v ((t : Int) - 1).toNat).1 ≠ 0) by rw [show ((t : Int) - 1).toNat = t - 1 by omega]; exact fun q => c2 ⟨by omega, q.2⟩), if_pos rfl, if_neg (fun q => c2 q.2)]
  · rw [if_neg c1, if_pos rfl, if_neg (fun q => c1 q.1)]
def oM9 (q : Nat) : Prop := q = 279
theorem nm8 : nm 8 = 12 := rfl
theorem mnset {σ σ0 : Zm} {n : Nat} {E : Nat → Int} {v : Int} (hn : n ≤ 7) (hf : zfo oM9 σ0 σ) (h : ∀ k, k < n → zrd σ 279 k = E k) (hv : zw v = E n) : zfo oM9 σ0 (zst σ 279 n v) ∧ ∀ k, k < n + 1 → zrd (zst σ 279 n v) 279 k = E k := by
  refine ⟨hf.st rfl, fun k hk => ?_⟩
  rw [zrd_st]
  by_cases c : k = n
  · rw [if_pos ⟨rfl, c⟩, hv, c]
  · rw [if_neg (fun q => c q.2)]
    exact h k (by omega)
theorem qM_namePair {A : Nat → Ln} {σ : Zm} {bar : Int} (h : MV A σ) (hsm : ∀ v, v < 4 → lsm (A v)) (hb : zrd σ 274 0 = bar) (hbb : 1 ≤ bar ∧ bar ≤ 12) {v w : Nat} (hv : v < 4) (hw : w < 4) (t : Nat) (ht : t < 32) (hs : (A v t).1 ≠ 0) (hs2 : (A w t).1 ≠ 0) : zwp (fM_namePair σ (v : Int) (w : Int) (t : Int)) (fun _ σ' => zfo oM9 σ σ' ∧ mnm 0 (pev (A v) (A w) t bar) σ') := by
  have b1 := hsm v hv t
  have b2 := hsm w hw t
  have b3 := hsm v hv (t - 1)
  have b4 := hsm w hw (t - 1)
  have e5 := emod_bd t bar ht hbb.1
  have em : Int.tmod (t : Int) bar = (t : Int) % bar := Int.tmod_eq_emod_of_nonneg (by omega)
  have st : ∀ σ1, zfo oM9 σ σ1 → MV A σ1 := fun σ1 f => MV_fo h f (by unfold oM9; omega) (by unfold oM9; omega)
  have k195 : ∀ σ1, zfo oM9 σ σ1 → (∀ k, k < 8 → zrd σ1 279 k = pev (A v) (A w) t bar k) → zwp (fM_namePair_195 (t : Int) σ1) (fun _ σ' => zfo oM9 σ σ' ∧ mnm 0 (pev (A v) (A w) t bar) σ') := by
    intro σ1 f q
    unfold fM_namePair_195
    rw [zck_ok (by decide), zwp_let, f.rd (by unfold oM9; omega), hb, zwp_dv]
    refine ⟨by omega, ?_⟩
    rw [zck_ok (by decide), zwp_let, zwp_some]
    refine ⟨f.st rfl, fun j hj => ?_⟩
    unfold nok at hj
    rw [if_pos rfl] at hj
    rw [zrd_st]
    by_cases c : j = 8
    · rw [c, nm8, if_pos ⟨rfl, rfl⟩, em, zwj (by omega) (by omega)]; rfl
    · have e : nm j = j := by unfold nm; rw [if_pos (by omega)]
      rw [e, if_neg (by omega)]
      exact q j (by omega)
  have k165 : ∀ σ1, zfo oM9 σ σ1 → (∀ k, k < 7 → zrd σ1 279 k = pev (A v) (A w) t bar k) → zwp (fM_namePair_165 (v : Int) (w : Int) (t : Int) σ1) (fun _ σ' => zfo oM9 σ σ' ∧ mnm 0 (pev (A v) (A w) t bar) σ') := by
    intro σ1 f q
    have fin : ∀ z : Int, zw z = pev (A v) (A w) t bar 7 → zwp (fM_namePair_195 (t : Int) (zst σ1 279 7 z)) (fun _ σ' => zfo oM9 σ σ' ∧ mnm 0 (pev (A v) (A w) t bar) σ') := by
      intro z hz
      obtain ⟨g1, g2⟩ := mnset (by omega) f q hz
      exact k195 _ g1 g2
    have e7 : pev (A v) (A w) t bar 7 = if (A v t).1 = 1 ∨ (A w t).1 = 1 then 0 else 1 := rfl
    unfold fM_namePair_165
    rw [zwp_bi, qM_beginsAt (st σ1 f) hv t ht, zwp_some, ite01_w]
    by_cases c1 : (A v t).1 = 1
    · rw [if_pos c1, if_pos (by decide), zck_ok (by decide), zwp_let]
      exact fin 0 (by rw [e7, if_pos (Or.inl c1)]; decide)
    · rw [if_neg c1, ifnn rfl, zwp_bi, qM_beginsAt (st σ1 f) hw t ht, zwp_some, ite01_w]
      by_cases c2 : (A w t).1 = 1
      · rw [if_pos c2, if_neg (by decide), zck_ok (by decide), zwp_let]
        exact fin 0 (by rw [e7, if_pos (Or.inr c2)]; decide)
      · rw [if_neg c2, if_pos rfl, zck_ok (by decide), zwp_let]
        exact fin 1 (by rw [e7, if_neg (by omega)]; decide)
  have k126 : ∀ σ1, zfo oM9 σ σ1 → (∀ k, k < 5 → zrd σ1 279 k = pev (A v) (A w) t bar k) → zwp (fM_namePair_126 (v : Int) (w : Int) (t : Int) (A v t).2 (A w t).2 σ1) (fun _ σ' => zfo oM9 σ σ' ∧ mnm 0 (pev (A v) (A w) t bar) σ') := by
    intro σ1 f q
    have f146 : ∀ z : Int, zw z = pev (A v) (A w) t bar 5 → zwp (fM_namePair_146 (v : Int) (w : Int) (t : Int) (A v t).2 (A w t).2 (zst σ1 279 5 z)) (fun _ σ' => zfo oM9 σ σ' ∧ mnm 0 (pev (A v) (A w) t bar) σ') := by
      intro z hz
      obtain ⟨g1, g2⟩ := mnset (by omega) f q hz
      have e6 : pev (A v) (A w) t bar 6 = if (A v t).2 < (A w t).2 then 1 else 0 := rfl
      unfold fM_namePair_146
      by_cases c : (A w t).2 ≤ (A v t).2
      · rw [if_pos c, zck_ok (by decide), zwp_let]
        obtain ⟨g3, g4⟩ := mnset (v := 0) (by omega) g1 g2 (by rw [e6, if_neg (by omega)]; decide)
        exact k165 _ g3 g4
      · rw [if_neg c, zck_ok (by decide), zwp_let]
        obtain ⟨g3, g4⟩ := mnset (v := 1) (by omega) g1 g2 (by rw [e6, if_pos (by omega)]; decide)
        exact k165 _ g3 g4
    have e5' : pev (A v) (A w) t bar 5 = max (A v t).2 (A w t).2 := rfl
    unfold fM_namePair_126
    by_cases c : (A v t).2 ≤ (A w t).2
    · rw [if_pos c, zck_ok (by decide), zwp_let]
      exact f146 _ (by rw [e5', zwj (by omega) (by omega)]; omega)
    · rw [if_neg c, zck_ok (by decide), zwp_let]
      exact f146 _ (by rw [e5', zwj (by omega) (by omega)]; omega)
  have k82 : ∀ σ1, zfo oM9 σ σ1 → (∀ k, k < 2 → zrd σ1 279 k = pev (A v) (A w) t bar k) → zwp (fM_namePair_82 (v : Int) (w : Int) (t : Int) (A v t).2 (A w t).2 σ1) (fun _ σ' => zfo oM9 σ σ' ∧ mnm 0 (pev (A v) (A w) t bar) σ') := by
    intro σ1 f q
    have e2 : pev (A v) (A w) t bar 2 = if (A v t).1 = 1 ∧ 1 ≤ t ∧ (A v (t - 1)).1 ≠ 0 then (A v t).2 - (A v (t - 1)).2 else 0 := rfl
    have e3 : pev (A v) (A w) t bar 3 = if (A w t).1 = 1 ∧ 1 ≤ t ∧ (A w (t - 1)).1 ≠ 0 then (A w t).2 - (A w (t - 1)).2 else 0 := rfl
    have e4 : pev (A v) (A w) t bar 4 = min (A v t).2 (A w t).2 := rfl
    have p2 := pev_bd (hsm v hv) (hsm w hw) ht hbb.1 2
    have p3 := pev_bd (hsm v hv) (hsm w hw) ht hbb.1 3
    unfold fM_namePair_82
    rw [zwp_bi, qM_moves (st σ1 f) hsm hv t ht, zwp_some, ← e2, zck_ok (by decide), zwp_let]
    obtain ⟨g1, g2⟩ := mnset (v := zw (pev (A v) (A w) t bar 2)) (by omega) f q (by rw [zw_w, zwj (by omega) (by omega)])
    rw [zwp_bi, qM_moves (st _ g1) hsm hw t ht, zwp_some, ← e3, zck_ok (by decide), zwp_let]
    obtain ⟨g3, g4⟩ := mnset (v := zw (pev (A v) (A w) t bar 3)) (by omega) g1 g2 (by rw [zw_w, zwj (by omega) (by omega)])
    by_cases c : (A w t).2 ≤ (A v t).2
    · rw [if_pos c, zck_ok (by decide), zwp_let]
      obtain ⟨g5, g6⟩ := mnset (v := (A w t).2) (by omega) g3 g4 (by rw [e4, zwj (by omega) (by omega)]; omega)
      exact k126 _ g5 g6
    · rw [if_neg c, zck_ok (by decide), zwp_let]
      obtain ⟨g5, g6⟩ := mnset (v := (A v t).2) (by omega) g3 g4 (by rw [e4, zwj (by omega) (by omega)]; omega)
      exact k126 _ g5 g6
  have hab : ∀ (σ1 : Zm) (z : Int), -1000000 ≤ z ∧ z ≤ 1000000 → fM_abs σ1 z = some (iab z, σ1) := by
    intro σ1 z hz
    unfold fM_abs iab
    split <;> rfl
  have e0 : pev (A v) (A w) t bar 0 = iab ((A v t).2 - (A w t).2) := rfl
  have p0 := pev_bd (hsm v hv) (hsm w hw) ht hbb.1 0
  have p1 := pev_bd (hsm v hv) (hsm w hw) ht hbb.1 1
  rw [e0] at p0
  unfold fM_namePair
  rw [zwp_bi, qM_pitchAt h hv t ht hs, zwp_some, zwp_bi, qM_pitchAt h hw t ht hs2, zwp_some, zwj (a := (A v t).2) (by omega) (by omega), zwj (a := (A w t).2) (by omega) (by omega), zwj (a := (A v t).2 - (A w t).2) (by omega) (by omega), zwp_bi, hab _ _ (by omega), zwp_some, zwj (a := iab ((A v t).2 - (A w t).2)) (by omega) (by omega), zck_ok (by decide), zwp_let]
  obtain ⟨g1, g2⟩ := mnset (n := 0) (E := pev (A v) (A w) t bar) (v := iab ((A v t).2 - (A w t).2)) (σ := σ) (σ0 := σ) (by omega) zfo.rf (by omega) (by rw [zwj (by omega) (by omega)]; rfl)
  have fin : ∀ z : Int, zw z = pev (A v) (A w) t bar 1 → zwp (fM_namePair_82 (v : Int) (w : Int) (t : Int) (A v t).2 (A w t).2 (zst (zst σ 279 0 (iab ((A v t).2 - (A w t).2))) 279 1 z)) (fun _ σ' => zfo oM9 σ σ' ∧ mnm 0 (pev (A v) (A w) t bar) σ') := by
    intro z hz
    obtain ⟨g3, g4⟩ := mnset (by omega) g1 g2 hz
    exact k82 _ g3 g4
  have e1 : pev (A v) (A w) t bar 1 = if (1 ≤ t ∧ (A v (t - 1)).1 ≠ 0) ∧ (A w (t - 1)).1 ≠ 0 then iab ((A v (t - 1)).2 - (A w (t - 1)).2) else -1 := rfl
  have hl : ∀ a : Ln, lsi a ((t : Int) - 1) = if 1 ≤ t ∧ (a (t - 1)).1 ≠ 0 then 1 else 0 := by
    intro a
    unfold lsi
    rw [show ((t : Int) - 1).toNat = t - 1 by omega]
    exact ite_cg (and_cg (by omega))
  rw [zwj (a := (t : Int) - 1) (by omega) (by omega), zwp_bi, qM_sounds (st _ g1) hv _ (by omega), zwp_some, lsi_w, hl]
  by_cases c1 : 1 ≤ t ∧ (A v (t - 1)).1 ≠ 0
  · rw [if_pos c1, if_neg (by decide), zwp_bi, qM_sounds (st _ g1) hw _ (by omega), zwp_some, lsi_w, hl]
    by_cases c2 : 1 ≤ t ∧ (A w (t - 1)).1 ≠ 0
    · rw [if_pos c2, if_neg (by decide), show (t : Int) - 1 = ((t - 1 : Nat) : Int) by omega, zwp_bi, qM_pitchAt (st _ g1) hv (t - 1) (by omega) c1.2, zwp_some, zwp_bi, qM_pitchAt (st _ g1) hw (t - 1) (by omega) c2.2, zwp_some, zwj (a := (A v (t - 1)).2) (by omega) (by omega), zwj (a := (A w (t - 1)).2) (by omega) (by omega), zwj (a := (A v (t - 1)).2 - (A w (t - 1)).2) (by omega) (by omega), zwp_bi, hab _ _ (by omega), zwp_some, zck_ok (by decide), zwp_let]
      rw [if_pos ⟨c1, c2.2⟩] at e1
      rw [← e1]
      exact fin _ (by rw [zw_w, zwj (by omega) (by omega)])
    · rw [if_neg c2, if_pos rfl, zck_ok (by decide), zwp_let]
      exact fin (-1) (by rw [e1, if_neg (fun q => c2 ⟨c1.1, q.2⟩)]; decide)
  · rw [if_neg c1, if_pos rfl, zck_ok (by decide), zwp_let]
    exact fin (-1) (by rw [e1, if_neg (fun q => c1 q.1)]; decide)
theorem pM_beganAhead_4 {A : Nat → Ln} {σ : Zm} (h : MV A σ) {v : Nat} (hv : v < 4) : ∀ (t m : Nat), t < m → t ≤ 32 → fM_beganAhead_4 m (v : Int) ((t : Int) - 1) σ = some (lna (A v) t, σ)
  | 0, m + 1, _, _ => by
    rw [fM_beganAhead_4]
    rfl
  | t + 1, m + 1, hm, ht => by
    rw [fM_beganAhead_4]
    simp only [zlet]
    rw [show ((t + 1 : Nat) : Int) - 1 = (t : Int) by omega, if_neg (by omega), zbi_eq (qM_beginsAt h hv t (by omega)), ite01_w, show zw ((t : Int) + (-1)) = (t : Int) - 1 by rw [zwj (by omega) (by omega)]; omega, lna_succ]
    by_cases c : (A v t).1 = 1
    · rw [if_pos c, if_pos (by decide), if_pos c]
    · rw [if_neg c, ifnn rfl, if_neg c]
      exact pM_beganAhead_4 h hv t m (by omega) (by omega)
theorem qM_beganAhead {A : Nat → Ln} {σ : Zm} (h : MV A σ) {v : Nat} (hv : v < 4) (t : Nat) (ht : t ≤ 32) : fM_beganAhead σ (v : Int) (t : Int) = some (lna (A v) t, σ) := by
  unfold fM_beganAhead
  simp only [zlet]
  rw [zwj (by omega) (by omega)]
  exact pM_beganAhead_4 h hv t 5000 (by omega) ht
theorem pM_nameLine_18 {A : Nat → Ln} {σ : Zm} (h : MV A σ) {v : Nat} (hv : v < 4) (t : Nat) (ht : t < 32) (x4 x5 : Int) (P : Int → Zm → Prop) (K : Int → Int → Int → Int → Int → Zm → Zr) (hK : zwp (K (v : Int) (t : Int) x4 x5 (lra (A v) t : Int) σ) P) (hs : 0 ≤ lna (A v) t) : ∀ (d m r : Nat), d < m → r + d = t → lra (A v) t = r + lra (A v) d → (∃ y, y < d ∧ (A v y).1 = 1) → zwp (fM_nameLine_18 m (v : Int) (t : Int) x4 x5 (r : Int) σ K) P
  | 0, m + 1, r, _, _, _, hy => by
    obtain ⟨y, h1, h2⟩ := hy
    omega
  | d + 1, m + 1, r, hm, hr, hl, hy => by
    rw [fM_nameLine_18]
    simp only [zwp_let]
    rw [show zw ((t : Int) - 1 - (r : Int)) = (d : Int) by rw [zwj (by omega) (by omega)]; omega, zwp_bi, qM_sounds h hv _ (by omega), zwp_some, lsi_w, show zw ((r : Int) + 1) = ((r + 1 : Nat) : Int) from zwj (by omega) (by omega)]
    have e : lra (A v) (d + 1) = if (A v d).1 = 0 then lra (A v) d + 1 else 0 := rfl
    have hls : lsi (A v) (d : Int) = if (A v d).1 = 0 then 0 else 1 := by
      unfold lsi
      rw [Int.toNat_natCast]
      by_cases c : (A v d).1 = 0
      · rw [if_neg (fun q => q.2 c), if_pos c]
      · rw [if_pos ⟨by omega, c⟩, if_neg c]
    rw [hls]
    by_cases c : (A v d).1 = 0
    · rw [if_pos c, ifnn rfl]
      rw [if_pos c] at e
      refine pM_nameLine_18 h hv t ht x4 x5 P K hK hs d m (r + 1) (by omega) (by omega) (by omega) ?_
      obtain ⟨y, h1, h2⟩ := hy
      refine ⟨y, ?_, h2⟩
      by_cases q : y = d
      · rw [q, c] at h2; exact absurd h2 (by decide)
      · omega
    · rw [if_neg c, if_pos (by decide)]
      rw [if_neg c] at e
      have : lra (A v) t = r := by omega
      rw [← this]
      exact hK
theorem qM_nameLine {A : Nat → Ln} {σ : Zm} {bar : Int} (h : MV A σ) (hsm : ∀ v, v < 4 → lsm (A v)) (hb : zrd σ 274 0 = bar) (hbb : 1 ≤ bar ∧ bar ≤ 12) {v : Nat} (hv : v < 4) (t : Nat) (ht : t < 32) (hs : (A v t).1 = 1) (hs2 : 0 ≤ lna (A v) t) : zwp (fM_nameLine σ (v : Int) (t : Int)) (fun _ σ' => zfo oM9 σ σ' ∧ mnm 1 (lev (A v) t bar) σ') := by
  obtain ⟨n1, n2, n3⟩ := lna_lt (A v) t
  obtain ⟨m1, m2, m3⟩ := lna_lt (A v) (lna (A v) t).toNat
  have n3' := n3 hs2
  have b1 := hsm v hv t
  have b2 := hsm v hv (lna (A v) t).toNat
  have b3 := hsm v hv (lna (A v) (lna (A v) t).toNat).toNat
  have e5 := emod_bd t bar ht hbb.1
  have em : Int.tmod (t : Int) bar = (t : Int) % bar := Int.tmod_eq_emod_of_nonneg (by omega)
  have hlr := lra_le (A v) t
  have st : ∀ σ1, zfo oM9 σ σ1 → MV A σ1 := fun σ1 f => MV_fo h f (by unfold oM9; omega) (by unfold oM9; omega)
  obtain ⟨p, hp⟩ : ∃ p : Nat, lna (A v) t = (p : Int) := ⟨(lna (A v) t).toNat, by omega⟩
  unfold fM_nameLine
  rw [zwp_bi, qM_beganAhead h hv t (by omega), zwp_some, zwj (a := lna (A v) t) (by omega) (by omega), hp, zwp_bi, qM_beganAhead h hv p (by omega), zwp_some]
  rw [hp, Int.toNat_natCast] at n3' b2 m1 m2 m3 b3
  rw [zwj (a := lna (A v) p) (by omega) (by omega)]
  refine pM_nameLine_18 h hv t ht _ _ _ _ ?_ (by omega) t 5000 0 (by omega) (by omega) (by omega) ⟨p, by omega, n3'⟩
  rw [zwp_bi, qM_pitchAt h hv t ht (by rw [hs]; decide), zwp_some, zwp_bi, qM_pitchAt h hv p (by omega) (by rw [n3']; decide), zwp_some, zwj (a := (A v t).2) (by omega) (by omega), zwj (a := (A v p).2) (by omega) (by omega), zck_ok (by decide), zwp_let]
  have f1 : zfo oM9 σ (zst σ 279 8 ((A v t).2 - (A v p).2)) := zfo.rf.st rfl
  have fin : ∀ z : Int, zw z = lev (A v) t bar 10 → zwp (fM_nameLine_88 (v : Int) (t : Int) (lra (A v) t : Int) (zst (zst σ 279 8 ((A v t).2 - (A v p).2)) 279 9 z)) (fun _ σ' => zfo oM9 σ σ' ∧ mnm 1 (lev (A v) t bar) σ') := by
    intro z hz
    have f2 : zfo oM9 σ (zst (zst σ 279 8 ((A v t).2 - (A v p).2)) 279 9 z) := f1.st rfl
    unfold fM_nameLine_88
    rw [zwp_bi, qM_pitchAt (st _ f2) hv t ht (by rw [hs]; decide), zwp_some, zwj (a := (A v t).2) (by omega) (by omega), zck_ok (by decide), zwp_let, zck_ok (by decide), zwp_let, zck_ok (by decide), zwp_let]
    have f4 : zfo oM9 σ (zst (zst (zst (zst σ 279 8 ((A v t).2 - (A v p).2)) 279 9 z) 279 10 (A v t).2) 279 11 (lra (A v) t : Int)) := (f2.st rfl).st rfl
    rw [f4.rd (by unfold oM9; omega), hb, zwp_dv]
    refine ⟨by omega, ?_⟩
    rw [zck_ok (by decide), zwp_let, zwp_some]
    refine ⟨f4.st rfl, fun j hj => ?_⟩
    unfold nok at hj
    rw [if_neg (by decide), if_pos rfl] at hj
    have hj' : j = 8 ∨ j = 9 ∨ j = 10 ∨ j = 11 ∨ j = 12 := by omega
    rw [zrd_st, zrd_st, zrd_st, zrd_st, zrd_st]
    rcases hj' with rfl | rfl | rfl | rfl | rfl
    · rw [show nm 8 = 12 from rfl, if_pos ⟨rfl, rfl⟩, em, zwj (by omega) (by omega)]; rfl
    · rw [show nm 9 = 8 from rfl, if_neg (by omega), if_neg (by omega), if_neg (by omega), if_neg (by omega), if_pos ⟨rfl, rfl⟩, zwj (by omega) (by omega)]
      unfold lev
      rw [if_neg (by decide), if_pos rfl, hp, Int.toNat_natCast]
    · rw [show nm 10 = 9 from rfl, if_neg (by omega), if_neg (by omega), if_neg (by omega), if_pos ⟨rfl, rfl⟩, hz]
    · rw [show nm 11 = 10 from rfl, if_neg (by omega), if_neg (by omega), if_pos ⟨rfl, rfl⟩, zwj (by omega) (by omega)]; rfl
    · rw [show nm 12 = 11 from rfl, if_neg (by omega), if_pos ⟨rfl, rfl⟩, zwj (by omega) (by omega)]; rfl
  have e10 : lev (A v) t bar 10 = if lna (A v) p < 0 then 0 else (A v p).2 - (A v (lna (A v) p).toNat).2 := by
    unfold lev
    rw [if_neg (by decide), if_neg (by decide), if_pos rfl, hp, Int.toNat_natCast]
  by_cases c4 : 0 ≤ lna (A v) p
  · rw [if_neg (by omega)] at e10
    obtain ⟨r, hr⟩ : ∃ r : Nat, lna (A v) p = (r : Int) := ⟨(lna (A v) p).toNat, by omega⟩
    have m3' := m3 c4
    rw [hr, Int.toNat_natCast] at m3' b3 e10
    rw [if_pos c4, hr, zwp_bi, qM_pitchAt (st _ f1) hv p (by omega) (by rw [n3']; decide), zwp_some, zwp_bi, qM_pitchAt (st _ f1) hv r (by omega) (by rw [m3']; decide), zwp_some, zwj (a := (A v p).2) (by omega) (by omega), zwj (a := (A v r).2) (by omega) (by omega), zck_ok (by decide), zwp_let]
    exact fin _ (by rw [e10, zwj (by omega) (by omega)])
  · rw [if_pos (by omega)] at e10
    rw [if_neg c4, zck_ok (by decide), zwp_let]
    exact fin 0 (by rw [e10]; decide)
/-- the log -/
def ml (σ : Zm) (L : List Bk) : Prop := zrd σ 273 26 = zw (L.length : Int) ∧ zrd σ 273 27 = zw (lsum L) ∧ ((L.length : Int) < 2147483648 → ∀ (k : Nat) (b : Bk), L[k]? = some b → zrd σ 273 28 = (k : Int) → zrd σ 284 0 = b.1 ∧ zrd σ 284 1 = b.2.1 ∧ zrd σ 284 2 = b.2.2.1 ∧ zrd σ 284 3 = b.2.2.2.1 ∧ zrd σ 284 4 = b.2.2.2.2)
def oMJ (q : Nat) : Prop := q = 273 ∨ q = 279 ∨ q = 280 ∨ q = 281 ∨ q = 284
def mpo (B : List Bk) (σ σ' : Zm) : Prop := zfo oMJ σ σ' ∧ (∀ k, k ≠ 26 → k ≠ 27 → zrd σ' 273 k = zrd σ 273 k) ∧ ∀ L, ml σ L → ml σ' (L ++ B)
theorem mpo.rf {σ : Zm} : mpo [] σ σ := ⟨zfo.rf, fun _ _ _ => rfl, fun L h => by rw [List.append_nil]; exact h⟩
theorem mpo.tr {A B : List Bk} {σ σ1 σ2 : Zm} (h : mpo A σ σ1) (h2 : mpo B σ1 σ2) : mpo (A ++ B) σ σ2 := ⟨h.1.tr h2.1, fun k a b => (h2.2.1 k a b).trans (h.2.1 k a b), fun L hL => by rw [← List.append_assoc]; exact h2.2.2 _ (h.2.2 L hL)⟩
theorem mpo_of {σ σ1 : Zm} {D : Nat → Prop} (h : zfo D σ σ1) (hD : ∀ q, D q → q = 279 ∨ q = 280 ∨ q = 281) : mpo [] σ σ1 := by
  have e0 : ∀ k, zrd σ1 273 k = zrd σ 273 k := fun k => h.rd (fun z => by have := hD _ z; omega) k
  have e1 : ∀ k, zrd σ1 284 k = zrd σ 284 k := fun k => h.rd (fun z => by have := hD _ z; omega) k
  refine ⟨h.mono (fun q z => by have := hD _ z; unfold oMJ; omega), fun k _ _ => e0 k, fun L hL => ?_⟩
  rw [List.append_nil]
  unfold ml at *
  simp only [e0, e1]
  exact hL
theorem qM_breakAt (σ : Zm) (t v w c p : Int) (ht : zw t = t) (hv : zw v = v) (hw : zw w = w) (hc : zw c = c) (hp : zw p = p) : zwp (fM_breakAt σ t v w c p) (fun _ σ' => mpo [(t, v, w, c, p)] σ σ' ∧ zfo (fun q => q = 273 ∨ q = 284) σ σ') := by
  have fin : ∀ σ1, zfo (oO 284) σ σ1 → (zrd σ 273 26 ≠ zrd σ 273 28 → ∀ j, zrd σ1 284 j = zrd σ 284 j) → (zrd σ 273 26 = zrd σ 273 28 → zrd σ1 284 0 = t ∧ zrd σ1 284 1 = v ∧ zrd σ1 284 2 = w ∧ zrd σ1 284 3 = c ∧ zrd σ1 284 4 = p) → zwp (fM_breakAt_48 p σ1) (fun _ σ' => mpo [(t, v, w, c, p)] σ σ' ∧ zfo (fun q => q = 273 ∨ q = 284) σ σ') := by
    intro σ1 f1 hn he
    have e0 : ∀ k, zrd σ1 273 k = zrd σ 273 k := fun k => f1.rd (oO_ne (by omega)) k
    unfold fM_breakAt_48
    rw [zwp_let]
    refine zwp_st (fun σ2 f2 v2 => ?_)
    rw [zwp_let]
    refine zwp_st (fun σ3 f3 v3 => ?_)
    rw [zwp_some]
    have e84 : ∀ k, zrd σ3 284 k = zrd σ1 284 k := fun k => by rw [f3.rd (oO_ne (by omega)), f2.rd (oO_ne (by omega))]
    have fz : zfo (fun q => q = 273 ∨ q = 284) σ σ3 := ((f1.mono (fun q h => Or.inr h)).tr (f2.mono (fun q h => Or.inl h))).tr (f3.mono (fun q h => Or.inl h))
    refine ⟨⟨fz.mono (fun q h => by unfold oMJ; omega), fun k k1 k2 => ?_, fun L hL => ?_⟩, fz⟩
    · rw [v3, if_neg k2, v2, if_neg k1, e0]
    · obtain ⟨a1, a2, a3⟩ := hL
      refine ⟨?_, ?_, ?_⟩
      · rw [v3, if_neg (by omega), v2, if_pos rfl, e0, a1, zw_addl]; simp
      · rw [v3, if_pos rfl, v2, if_neg (by omega), e0, a2, lsum_ap, zw_addl]; simp [lsum]
      · simp only [List.length_append, List.length_cons, List.length_nil]
        intro hlen j b hj h4
        rw [v3, if_neg (by omega), v2, if_neg (by omega), e0] at h4
        have hc5 : zrd σ 273 26 = (L.length : Int) := by rw [a1]; exact zwj (by omega) (by omega)
        rw [e84, e84, e84, e84, e84]
        by_cases c1 : j < L.length
        · rw [List.getElem?_append_left c1] at hj
          have hne : zrd σ 273 26 ≠ zrd σ 273 28 := by rw [hc5, h4]; omega
          rw [hn hne, hn hne, hn hne, hn hne, hn hne]
          exact a3 (by omega) j b hj h4
        · rw [List.getElem?_append_right (by omega)] at hj
          have hj0 : j - L.length = 0 := by
            by_cases c2 : j - L.length = 0
            · exact c2
            · rw [List.getElem?_eq_none (by simp; omega)] at hj; cases hj
          rw [hj0] at hj
          cases hj
          exact he (by rw [hc5, h4]; omega)
  unfold fM_breakAt
  simp only [zwp_let]
  by_cases c1 : zrd σ 273 26 = zrd σ 273 28
  · rw [ifnn c1, zck_ok (by decide)]
    refine zwp_st (fun τ1 g1 w1 => ?_)
    rw [zck_ok (by decide)]
    refine zwp_st (fun τ2 g2 w2 => ?_)
    rw [zck_ok (by decide)]
    refine zwp_st (fun τ3 g3 w3 => ?_)
    rw [zck_ok (by decide)]
    refine zwp_st (fun τ4 g4 w4 => ?_)
    rw [zck_ok (by decide)]
    refine zwp_st (fun τ5 g5 w5 => ?_)
    refine fin τ5 ((((g1.tr g2).tr g3).tr g4).tr g5) (fun h => absurd c1 h) (fun _ => ?_)
    simp only [w5, w4, w3, w2, w1]
    simp [ht, hv, hw, hc, hp]
  · rw [if_pos c1]
    exact fin σ zfo.rf (fun _ _ => rfl) (fun h => absurd h c1)

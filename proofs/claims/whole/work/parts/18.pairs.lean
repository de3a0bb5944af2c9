/-! MY OWN: the names of a pair and of a line; the class's askPair, askLine -/
def iab (x : Int) : Int := if 0 ≤ x then x else -x
def pev (a b : Ln) (t : Nat) (bar : Int) (k : Nat) : Int :=
  if k = 0 then iab ((a t).2 - (b t).2)
  else if k = 1 then (if (1 ≤ t ∧ (a (t - 1)).1 ≠ 0) ∧ (b (t - 1)).1 ≠ 0 then iab ((a (t - 1)).2 - (b (t - 1)).2) else -1)
  else if k = 2 then (if (a t).1 = 1 ∧ 1 ≤ t ∧ (a (t - 1)).1 ≠ 0 then (a t).2 - (a (t - 1)).2 else 0)
  else if k = 3 then (if (b t).1 = 1 ∧ 1 ≤ t ∧ (b (t - 1)).1 ≠ 0 then (b t).2 - (b (t - 1)).2 else 0)
  else if k = 4 then min (a t).2 (b t).2
  else if k = 5 then max (a t).2 (b t).2
  else if k = 6 then (if (a t).2 < (b t).2 then 1 else 0)
  else if k = 7 then (if (a t).1 = 1 ∨ (b t).1 = 1 then 0 else 1)
  else if k = 8 then ((t : Int) % bar)
  else 0
def lev (a : Ln) (t : Nat) (bar : Int) (k : Nat) : Int :=
  if k = 8 then ((t : Int) % bar)
  else if k = 9 then (a t).2 - (a (lna a t).toNat).2
  else if k = 10 then (if lna a (lna a t).toNat < 0 then 0 else (a (lna a t).toNat).2 - (a (lna a (lna a t).toNat).toNat).2)
  else if k = 11 then (a t).2
  else if k = 12 then (lra a t : Int)
  else 0
def pbk (T : List Cl) (a b : Ln) (t : Nat) (bar : Int) : List (Nat × Int) := if (a t).1 ≠ 0 ∧ (b t).1 ≠ 0 then brk (pev a b t bar) 0 T 0 else []
def lbk (T : List Cl) (a : Ln) (t : Nat) (bar : Int) : List (Nat × Int) := if (a t).1 = 1 ∧ 0 ≤ lna a t then brk (lev a t bar) 1 T 0 else []
theorem emod_bd (t : Nat) (bar : Int) (ht : t < 32) (hb : 1 ≤ bar) : 0 ≤ (t : Int) % bar ∧ (t : Int) % bar < 32 := by
  have h1 := Int.emod_nonneg (t : Int) (show bar ≠ 0 by omega)
  have h2 : (t : Int) % bar ≤ (t : Int) := by
    have h3 := Int.mul_ediv_add_emod (t : Int) bar
    have h4 : 0 ≤ (t : Int) / bar := Int.ediv_nonneg (by omega) (by omega)
    have h5 : 0 ≤ bar * ((t : Int) / bar) := Int.mul_nonneg (by omega) h4
    omega
  omega
theorem lra_le (a : Ln) : ∀ (x : Nat), lra a x ≤ x
  | 0 => Nat.le_refl _
  | x + 1 => by
    show (if (a x).1 = 0 then pra _ x + 1 else 0) ≤ x + 1
    have := lra_le a x
    unfold lra at this
    split <;> omega
theorem lna_lt (a : Ln) : ∀ (x : Nat), -1 ≤ lna a x ∧ lna a x < x ∧ (0 ≤ lna a x → (a (lna a x).toNat).1 = 1)
  | 0 => ⟨Int.le_refl _, by show (-1 : Int) < 0; decide, fun h => absurd (show (0 : Int) ≤ -1 from h) (by decide)⟩
  | x + 1 => by
    have ih := lna_lt a x
    unfold lna at *
    show -1 ≤ (if (a x).1 = 1 then (x : Int) else _) ∧ (if (a x).1 = 1 then (x : Int) else _) < _ ∧ (0 ≤ (if (a x).1 = 1 then (x : Int) else _) → (a (if (a x).1 = 1 then (x : Int) else _).toNat).1 = 1)
    by_cases c : (a x).1 = 1
    · rw [if_pos c]
      refine ⟨by omega, by omega, fun _ => ?_⟩
      rw [Int.toNat_natCast]; exact c
    · rw [if_neg c]
      exact ⟨ih.1, by omega, ih.2.2⟩
theorem pev_bd {a b : Ln} (ha : lsm a) (hb : lsm b) {t : Nat} {bar : Int} (ht : t < 32) (h1 : 1 ≤ bar) (k : Nat) : -1000000 ≤ pev a b t bar k ∧ pev a b t bar k ≤ 1000000 := by
  have e1 := ha t
  have e2 := hb t
  have e3 := ha (t - 1)
  have e4 := hb (t - 1)
  have e5 := emod_bd t bar ht h1
  unfold pev iab
  repeat' split
  all_goals omega
theorem lev_bd {a : Ln} (ha : lsm a) {t : Nat} {bar : Int} (ht : t < 32) (h1 : 1 ≤ bar) (k : Nat) : -1000000 ≤ lev a t bar k ∧ lev a t bar k ≤ 1000000 := by
  have e1 := ha t
  have e2 := ha (lna a t).toNat
  have e3 := ha (lna a (lna a t).toNat).toNat
  have e4 := lra_le a t
  have e5 := emod_bd t bar ht h1
  unfold lev
  repeat' split
  all_goals omega
def oJ1 (J : Nat) : Nat → Prop := fun q => q = J + 1
theorem jpo_nm {J : Nat} {t : Int} {B : List (Nat × Int)} {σ0 σ σ' : Zm} (h : zfo (oJ1 J) σ0 σ) (h2 : jpo oJc J t B σ σ') : jpo oJ J t B σ0 σ' := by
  have e0 : ∀ k, zrd σ J k = zrd σ0 J k := fun k => h.rd (show ¬ oJ1 J J by unfold oJ1; omega) k
  have e3 : ∀ k, zrd σ (J + 3) k = zrd σ0 (J + 3) k := fun k => h.rd (show ¬ oJ1 J (J + 3) by unfold oJ1; omega) k
  obtain ⟨a1, a2, a3, a4⟩ := h2
  refine ⟨(h.mono (fun q hq => Or.inr (Or.inl hq))).tr (a1.mono (fun q hq => ?_)), fun k x y => (a2 k x y).trans (e0 k), by rw [a3, e0], fun L hL => ?_⟩
  · rcases hq with hq | hq | hq
    · exact Or.inl hq
    · exact Or.inr (Or.inr (Or.inl hq))
    · exact Or.inr (Or.inr (Or.inr hq))
  · have := a4 L (by unfold jl at *; simp only [e0, e3]; exact hL)
    rw [e0, e0] at this
    exact this
theorem nmset {σ σ0 : Zm} {J n : Nat} {E : Nat → Int} {v : Int} (hf : zfo (oJ1 J) σ0 σ) (h : ∀ k, k < n → zrd σ (J + 1) k = E k) (hv : zw v = E n) : zfo (oJ1 J) σ0 (zst σ (J + 1) n v) ∧ ∀ k, k < n + 1 → zrd (zst σ (J + 1) n v) (J + 1) k = E k := by
  refine ⟨hf.st rfl, fun k hk => ?_⟩
  rw [zrd_st]
  by_cases c : k = n
  · rw [if_pos ⟨rfl, c⟩, hv, c]
  · rw [if_neg (fun q => c q.2)]
    exact h k (by omega)
/-- what the Judge needs of its surroundings -/
def jok (J R : Nat) (T : List Cl) (bar : Int) (σ : Zm) : Prop := zLN (R + 1) = 300 ∧ (∀ j, j < 6 → ¬ oJ J (R + j)) ∧ TRc σ R T ∧ WF T ∧ zrd σ J 3 = bar ∧ 1 ≤ bar ∧ bar ≤ 12
theorem pJ_askPair_280 {J R : Nat} {T : List Cl} {bar : Int} {σ0 : Zm} (hj : jok J R T bar σ0) {a b : Ln} (ha : lsm a) (hb : lsm b) {t : Nat} (ht : t < 32) {σ : Zm} (hf : zfo (oJ1 J) σ0 σ) (h : ∀ k, k < 8 → zrd σ (J + 1) k = pev a b t bar k) : zwp (fJ_askPair_280 J R (t : Int) σ) (fun _ σ' => jpo oJ J t (brk (pev a b t bar) 0 T 0) σ0 σ') := by
  obtain ⟨h1, h2, h3, h4, h5, h6, h7⟩ := hj
  have e0 : zrd σ J 3 = bar := by rw [hf.rd (show ¬ oJ1 J J by unfold oJ1; omega)]; exact h5
  have e5 := emod_bd t bar ht h6
  unfold fJ_askPair_280
  rw [zwp_let, e0, zwp_dv, zck_ok (by decide), zwp_let, zwp_bv]
  refine ⟨by omega, ?_⟩
  have em : Int.tmod (t : Int) bar = (t : Int) % bar := Int.tmod_eq_emod_of_nonneg (by omega)
  obtain ⟨g1, g2⟩ := nmset (n := 8) (v := Int.tmod (t : Int) bar) hf h (by
    rw [em, zwj (by omega) (by omega)]
    rfl)
  refine zwp_mono (qJ_askClauses h1 h2 (pev a b t bar) (pev_bd ha hb ht h6) 0 t (Or.inl rfl) (zwj (by omega) (by omega)) T _ ?_ h4 ?_) (fun r σ' q => ?_)
  · exact TRc_fo g1 (fun j hj q => h2 j hj (Or.inr (Or.inl q))) h3
  · intro j hj
    refine g2 j ?_
    unfold nok at hj
    rw [if_pos rfl] at hj
    omega
  · rw [zwp_some]
    exact jpo_nm g1 q
theorem pJ_askPair_258 {J R : Nat} {T : List Cl} {bar : Int} {σ0 : Zm} (hj : jok J R T bar σ0) {a b : Ln} (ha : lsm a) (hb : lsm b) {t : Nat} (ht : t < 32) {σ : Zm} (hf : zfo (oJ1 J) σ0 σ) (h : ∀ k, k < 7 → zrd σ (J + 1) k = pev a b t bar k) : zwp (fJ_askPair_258 J R (t : Int) (if (a t).1 = 1 then 1 else 0) (if (b t).1 = 1 then 1 else 0) σ) (fun _ σ' => jpo oJ J t (brk (pev a b t bar) 0 T 0) σ0 σ') := by
  have fin : ∀ v : Int, zw v = pev a b t bar 7 → zwp (fJ_askPair_280 J R (t : Int) (zst σ (J + 1) 7 v)) (fun _ σ' => jpo oJ J t (brk (pev a b t bar) 0 T 0) σ0 σ') := by
    intro v hv
    obtain ⟨g1, g2⟩ := nmset hf h hv
    exact pJ_askPair_280 hj ha hb ht g1 g2
  unfold fJ_askPair_258
  by_cases c1 : (a t).1 = 1
  · rw [if_pos c1, if_pos (by decide), zck_ok (by decide), zwp_let]
    exact fin 0 (by unfold pev; simp [c1]; decide)
  · rw [if_neg c1, if_neg (by decide)]
    by_cases c2 : (b t).1 = 1
    · rw [if_pos c2, if_neg (by decide), zck_ok (by decide), zwp_let]
      exact fin 0 (by unfold pev; simp [c2]; decide)
    · rw [if_neg c2, if_pos rfl, zck_ok (by decide), zwp_let]
      exact fin 1 (by unfold pev; simp [c1, c2]; decide)
theorem pJ_askPair_213 {J R : Nat} {T : List Cl} {bar : Int} {σ0 : Zm} (hj : jok J R T bar σ0) {a b : Ln} (ha : lsm a) (hb : lsm b) {t : Nat} (ht : t < 32) {σ : Zm} (hf : zfo (oJ1 J) σ0 σ) (h : ∀ k, k < 4 → zrd σ (J + 1) k = pev a b t bar k) : zwp (fJ_askPair_213 J R (t : Int) (a t).2 (b t).2 (if (a t).1 = 1 then 1 else 0) (if (b t).1 = 1 then 1 else 0) σ) (fun _ σ' => jpo oJ J t (brk (pev a b t bar) 0 T 0) σ0 σ') := by
  have e1 := ha t
  have e2 := hb t
  unfold fJ_askPair_213
  simp only [zwp_let]
  rw [zck_ok (by decide), zwp_let, zwp_let, zck_ok (by decide), zwp_let]
  obtain ⟨g1, g2⟩ := nmset (v := min (a t).2 (b t).2) hf h (by rw [zwj (by omega) (by omega)]; rfl)
  obtain ⟨g3, g4⟩ := nmset (v := max (a t).2 (b t).2) g1 g2 (by rw [zwj (by omega) (by omega)]; rfl)
  by_cases c : (b t).2 ≤ (a t).2
  · rw [if_pos c, zck_ok (by decide), zwp_let]
    obtain ⟨g5, g6⟩ := nmset (v := 0) g3 g4 (by unfold pev; simp [show ¬ (a t).2 < (b t).2 by omega]; decide)
    exact pJ_askPair_258 hj ha hb ht g5 g6
  · rw [if_neg c, zck_ok (by decide), zwp_let]
    obtain ⟨g5, g6⟩ := nmset (v := 1) g3 g4 (by unfold pev; simp [show (a t).2 < (b t).2 by omega]; decide)
    exact pJ_askPair_258 hj ha hb ht g5 g6

theorem pJ_askPair_181 {J R : Nat} {T : List Cl} {bar : Int} {σ0 : Zm} (hj : jok J R T bar σ0) {a b : Ln} (ha : lsm a) (hb : lsm b) {t : Nat} (ht : t < 32) {o3 : Nat} (h3 : zli 32 o3) (hd : o3 + 1 ≠ J + 1) (hb3 : ln 32 σ0 o3 = b) {σ : Zm} (hf : zfo (oJ1 J) σ0 σ) (h : ∀ k, k < 3 → zrd σ (J + 1) k = pev a b t bar k) : zwp (fJ_askPair_181 J R o3 (t : Int) (a t).2 (b t).2 (if (a t).1 = 1 then 1 else 0) (if (b t).1 = 1 then 1 else 0) (lsi b ((t : Int) - 1)) σ) (fun _ σ' => jpo oJ J t (brk (pev a b t bar) 0 T 0) σ0 σ') := by
  have e2 := hb t
  have e4 := hb (t - 1)
  have e1 := h3.1
  unfold fJ_askPair_181
  have fin : ∀ v : Int, zw v = pev a b t bar 3 → zwp (fJ_askPair_213 J R (t : Int) (a t).2 (b t).2 (if (a t).1 = 1 then 1 else 0) (if (b t).1 = 1 then 1 else 0) (zst σ (J + 1) 3 v)) (fun _ σ' => jpo oJ J t (brk (pev a b t bar) 0 T 0) σ0 σ') := by
    intro v hv
    obtain ⟨g1, g2⟩ := nmset hf h hv
    exact pJ_askPair_213 hj ha hb ht g1 g2
  unfold lsi at *
  by_cases c1 : (b t).1 = 1
  · rw [if_pos c1] at fin ⊢
    rw [if_neg (by decide)]
    by_cases c2 : 0 ≤ (t : Int) - 1 ∧ (b ((t : Int) - 1).toNat).1 ≠ 0
    · rw [if_pos c2, if_neg (by decide)]
      have et : ((t : Int) - 1).toNat = t - 1 := by omega
      rw [et] at c2
      have ez : zw ((t : Int) - 1) = ((t - 1 : Nat) : Int) := by rw [zwj (by omega) (by omega)]; omega
      rw [ez, zckj (by omega) (by omega), zwp_let, zck_ok (by decide), zwp_let, Int.toNat_natCast]
      have ev : zrd σ (o3 + 1) (t - 1) = (b (t - 1)).2 := by
        rw [hf.rd (show ¬ oJ1 J (o3 + 1) from hd), ← hb3, ln_2 (by omega)]
        rw [← hb3, ln_1 (by omega)] at c2
        exact c2.2
      rw [ev]
      exact fin _ (by rw [zwj (by omega) (by omega)]; unfold pev; simp [c1, c2.2, show 1 ≤ t by omega])
    · rw [if_neg c2, if_pos rfl, zck_ok (by decide), zwp_let]
      refine fin 0 ?_
      have et : ((t : Int) - 1).toNat = t - 1 := by omega
      rw [et] at c2
      have : ¬ (1 ≤ t ∧ (b (t - 1)).1 ≠ 0) := fun q => c2 ⟨by omega, q.2⟩
      show zw 0 = if (b t).1 = 1 ∧ 1 ≤ t ∧ (b (t - 1)).1 ≠ 0 then _ else (0 : Int)
      rw [if_neg (fun q => this q.2), zw_0]
  · rw [if_neg c1] at fin ⊢
    rw [if_pos rfl, zck_ok (by decide), zwp_let]
    exact fin 0 (by unfold pev; simp [c1]; decide)
theorem pJ_askPair_149 {J R : Nat} {T : List Cl} {bar : Int} {σ0 : Zm} (hj : jok J R T bar σ0) {a b : Ln} (ha : lsm a) (hb : lsm b) {t : Nat} (ht : t < 32) {o2 o3 : Nat} (h2 : zli 32 o2) (hd2 : o2 + 1 ≠ J + 1) (ha2 : ln 32 σ0 o2 = a) (h3 : zli 32 o3) (hd : o3 + 1 ≠ J + 1) (hb3 : ln 32 σ0 o3 = b) {σ : Zm} (hf : zfo (oJ1 J) σ0 σ) (h : ∀ k, k < 2 → zrd σ (J + 1) k = pev a b t bar k) : zwp (fJ_askPair_149 J R o2 o3 (t : Int) (a t).2 (b t).2 (if (a t).1 = 1 then 1 else 0) (if (b t).1 = 1 then 1 else 0) (lsi a ((t : Int) - 1)) (lsi b ((t : Int) - 1)) σ) (fun _ σ' => jpo oJ J t (brk (pev a b t bar) 0 T 0) σ0 σ') := by
  have e2 := ha t
  have e4 := ha (t - 1)
  have e1 := h2.1
  unfold fJ_askPair_149
  have fin : ∀ v : Int, zw v = pev a b t bar 2 → zwp (fJ_askPair_181 J R o3 (t : Int) (a t).2 (b t).2 (if (a t).1 = 1 then 1 else 0) (if (b t).1 = 1 then 1 else 0) (lsi b ((t : Int) - 1)) (zst σ (J + 1) 2 v)) (fun _ σ' => jpo oJ J t (brk (pev a b t bar) 0 T 0) σ0 σ') := by
    intro v hv
    obtain ⟨g1, g2⟩ := nmset hf h hv
    exact pJ_askPair_181 hj ha hb ht h3 hd hb3 g1 g2
  unfold lsi at *
  by_cases c1 : (a t).1 = 1
  · rw [if_pos c1] at fin ⊢
    rw [if_neg (by decide)]
    by_cases c2 : 0 ≤ (t : Int) - 1 ∧ (a ((t : Int) - 1).toNat).1 ≠ 0
    · rw [if_pos c2, if_neg (by decide)]
      have et : ((t : Int) - 1).toNat = t - 1 := by omega
      rw [et] at c2
      have ez : zw ((t : Int) - 1) = ((t - 1 : Nat) : Int) := by rw [zwj (by omega) (by omega)]; omega
      rw [ez, zckj (by omega) (by omega), zwp_let, zck_ok (by decide), zwp_let, Int.toNat_natCast]
      have ev : zrd σ (o2 + 1) (t - 1) = (a (t - 1)).2 := by
        rw [hf.rd (show ¬ oJ1 J (o2 + 1) from hd2), ← ha2, ln_2 (by omega)]
        rw [← ha2, ln_1 (by omega)] at c2
        exact c2.2
      rw [ev]
      exact fin _ (by rw [zwj (by omega) (by omega)]; unfold pev; simp [c1, c2.2, show 1 ≤ t by omega])
    · rw [if_neg c2, if_pos rfl, zck_ok (by decide), zwp_let]
      refine fin 0 ?_
      have et : ((t : Int) - 1).toNat = t - 1 := by omega
      rw [et] at c2
      have : ¬ (1 ≤ t ∧ (a (t - 1)).1 ≠ 0) := fun q => c2 ⟨by omega, q.2⟩
      show zw 0 = if (a t).1 = 1 ∧ 1 ≤ t ∧ (a (t - 1)).1 ≠ 0 then _ else (0 : Int)
      rw [if_neg (fun q => this q.2), zw_0]
  · rw [if_neg c1] at fin ⊢
    rw [if_pos rfl, zck_ok (by decide), zwp_let]
    exact fin 0 (by unfold pev; simp [c1]; decide)
theorem zabs_id {x : Int} (h : -1000000 ≤ x ∧ x ≤ 1000000) : zabs x = iab x := by
  unfold zabs iab
  split
  · rfl
  · rw [zwj (by omega) (by omega)]
theorem pJ_askPair_73 {J R : Nat} {T : List Cl} {bar : Int} {σ0 : Zm} (hj : jok J R T bar σ0) {a b : Ln} (ha : lsm a) (hb : lsm b) {t : Nat} (ht : t < 32) {o2 o3 : Nat} (h2 : zli 32 o2) (hd2 : o2 + 1 ≠ J + 1) (ha2 : ln 32 σ0 o2 = a) (h3 : zli 32 o3) (hd : o3 + 1 ≠ J + 1) (hb3 : ln 32 σ0 o3 = b) : zwp (fJ_askPair_73 J R o2 o3 (t : Int) (a t).2 (b t).2 (if (a t).1 = 1 then 1 else 0) (if (b t).1 = 1 then 1 else 0) σ0) (fun _ σ' => jpo oJ J t (brk (pev a b t bar) 0 T 0) σ0 σ') := by
  have e2 := ha t
  have e4 := ha (t - 1)
  have e5 := hb t
  have e6 := hb (t - 1)
  have e1 := h2.1
  have e3 := h3.1
  unfold fJ_askPair_73
  have ez1 : zw ((t : Int) - 1) = (t : Int) - 1 := zwj (by omega) (by omega)
  rw [ez1, zwp_bi, qL_sounds h2 σ0 _, zwp_some, zwp_bi, qL_sounds h3 σ0 _, zwp_some, zwp_let, zck_ok (by decide), zwp_let]
  rw [zwj (a := (a t).2 - (b t).2) (by omega) (by omega), zabs_id (by omega), ha2, hb3, lsi_w, lsi_w]
  have hi : iab ((a t).2 - (b t).2) = pev a b t bar 0 := rfl
  have hib : -1000000 ≤ iab ((a t).2 - (b t).2) ∧ iab ((a t).2 - (b t).2) ≤ 1000000 := by rw [hi]; exact pev_bd ha hb ht hj.2.2.2.2.2.1 0
  obtain ⟨g1, g2⟩ := nmset (J := J) (n := 0) (E := pev a b t bar) (v := iab ((a t).2 - (b t).2)) (σ := σ0) (σ0 := σ0) zfo.rf (by omega) (by rw [zwj (by omega) (by omega)]; rfl)
  have fin : ∀ v : Int, zw v = pev a b t bar 1 → zwp (fJ_askPair_149 J R o2 o3 (t : Int) (a t).2 (b t).2 (if (a t).1 = 1 then 1 else 0) (if (b t).1 = 1 then 1 else 0) (lsi a ((t : Int) - 1)) (lsi b ((t : Int) - 1)) (zst (zst σ0 (J + 1) 0 (iab ((a t).2 - (b t).2))) (J + 1) 1 v)) (fun _ σ' => jpo oJ J t (brk (pev a b t bar) 0 T 0) σ0 σ') := by
    intro v hv
    obtain ⟨g3, g4⟩ := nmset g1 g2 hv
    exact pJ_askPair_149 hj ha hb ht h2 hd2 ha2 h3 hd hb3 g3 g4
  have et : ((t : Int) - 1).toNat = t - 1 := by omega
  have l1 : lsi a ((t : Int) - 1) = if 1 ≤ t ∧ (a (t - 1)).1 ≠ 0 then 1 else 0 := by
    unfold lsi
    rw [et]
    exact ite_cg (and_cg (by omega))
  have l2 : lsi b ((t : Int) - 1) = if 1 ≤ t ∧ (b (t - 1)).1 ≠ 0 then 1 else 0 := by
    unfold lsi
    rw [et]
    exact ite_cg (and_cg (by omega))
  rw [l1, l2] at fin ⊢
  by_cases c1 : 1 ≤ t ∧ (a (t - 1)).1 ≠ 0
  · rw [if_pos c1] at fin ⊢
    rw [if_neg (by decide)]
    by_cases c2 : 1 ≤ t ∧ (b (t - 1)).1 ≠ 0
    · rw [if_pos c2] at fin ⊢
      have ez : (t : Int) - 1 = ((t - 1 : Nat) : Int) := by omega
      rw [if_neg (by decide), ez, zckj (by omega) (by omega), zwp_let, zckj (by omega) (by omega), zwp_let, Int.toNat_natCast, zwp_let, zck_ok (by decide), zwp_let]
      have ev1 : zrd (zst σ0 (J + 1) 0 (iab ((a t).2 - (b t).2))) (o2 + 1) (t - 1) = (a (t - 1)).2 := by
        rw [g1.rd (show ¬ oJ1 J (o2 + 1) from hd2), ← ha2, ln_2 (by omega)]
        rw [← ha2, ln_1 (by omega)] at c1
        exact c1.2
      have ev2 : zrd (zst σ0 (J + 1) 0 (iab ((a t).2 - (b t).2))) (o3 + 1) (t - 1) = (b (t - 1)).2 := by
        rw [g1.rd (show ¬ oJ1 J (o3 + 1) from hd), ← hb3, ln_2 (by omega)]
        rw [← hb3, ln_1 (by omega)] at c2
        exact c2.2
      rw [ev1, ev2, zwj (a := (a (t - 1)).2 - (b (t - 1)).2) (by omega) (by omega), zabs_id (by omega)]
      have hp : pev a b t bar 1 = iab ((a (t - 1)).2 - (b (t - 1)).2) := by unfold pev; simp [c1, c2]
      have hpb := pev_bd ha hb ht hj.2.2.2.2.2.1 1
      exact fin _ (by rw [hp, zwj (by omega) (by omega)])
    · rw [if_neg c2] at fin ⊢
      rw [if_pos rfl, zck_ok (by decide), zwp_let]
      refine fin (-1) ?_
      have : (b (t - 1)).1 = 0 := by
        by_cases q : (b (t - 1)).1 = 0
        · exact q
        · exact absurd ⟨c1.1, q⟩ c2
      unfold pev
      simp [this]
      decide
  · rw [if_neg c1] at fin ⊢
    rw [if_pos rfl, zck_ok (by decide), zwp_let]
    refine fin (-1) ?_
    unfold pev
    rw [if_neg (by decide), if_pos rfl, if_neg (fun q => c1 q.1)]
    decide
theorem qJ_askPair {J R : Nat} {T : List Cl} {bar : Int} {σ0 : Zm} (hj : jok J R T bar σ0) {a b : Ln} (ha : lsm a) (hb : lsm b) {t : Nat} (ht : t < 32) {o2 o3 : Nat} (h2 : zli 32 o2) (hd2 : o2 + 1 ≠ J + 1) (ha2 : ln 32 σ0 o2 = a) (h3 : zli 32 o3) (hd : o3 + 1 ≠ J + 1) (hb3 : ln 32 σ0 o3 = b) : zwp (fJ_askPair σ0 J R o2 o3 (t : Int)) (fun _ σ' => jpo oJ J t (pbk T a b t bar) σ0 σ') := by
  have e1 := h2.1
  have e2 := h2.2
  have e3 := h3.1
  have e4 := h3.2
  have k1 : (a t).1 = zrd σ0 (o2 + 2) t := by rw [← ha2]; exact ln_1 ht
  have k2 : (b t).1 = zrd σ0 (o3 + 2) t := by rw [← hb3]; exact ln_1 ht
  have l1 : lsi a (t : Int) = if (a t).1 ≠ 0 then 1 else 0 := by
    unfold lsi
    rw [Int.toNat_natCast]
    exact ite_cg ⟨fun q => q.2, fun q => ⟨by omega, q⟩⟩
  have l2 : lsi b (t : Int) = if (b t).1 ≠ 0 then 1 else 0 := by
    unfold lsi
    rw [Int.toNat_natCast]
    exact ite_cg ⟨fun q => q.2, fun q => ⟨by omega, q⟩⟩
  unfold fJ_askPair pbk
  rw [zwp_bi, qL_sounds h2 σ0 _, zwp_some, ha2, lsi_w, l1]
  by_cases c1 : (a t).1 ≠ 0
  · rw [if_pos c1, if_neg (by decide), zwp_bi, qL_sounds h3 σ0 _, zwp_some, hb3, lsi_w, l2]
    by_cases c2 : (b t).1 ≠ 0
    · have p1 : zrd σ0 (o2 + 1) t = (a t).2 := by rw [← ha2]; exact (ln_2 ht (by rw [← k1]; exact c1)).symm
      have p2 : zrd σ0 (o3 + 1) t = (b t).2 := by rw [← hb3]; exact (ln_2 ht (by rw [← k2]; exact c2)).symm
      rw [if_pos c2, if_pos (by decide), zckj (by omega) (by omega), zwp_let, zckj (by omega) (by omega), zwp_let, zckj (by omega) (by omega), zwp_let, Int.toNat_natCast, p1, p2, ← k1, if_pos (show (a t).1 ≠ 0 ∧ (b t).1 ≠ 0 from ⟨c1, c2⟩)]
      have main := pJ_askPair_73 hj ha hb ht h2 hd2 ha2 h3 hd hb3
      have fin : ∀ x7 : Int, x7 = (if (a t).1 = 1 then 1 else 0) → zwp (fJ_askPair_55 J R o2 o3 (t : Int) (a t).2 (b t).2 x7 σ0) (fun _ σ' => jpo oJ J t (brk (pev a b t bar) 0 T 0) σ0 σ') := by
        intro x7 hx
        unfold fJ_askPair_55
        rw [zckj (by omega) (by omega), zwp_let, Int.toNat_natCast, ← k2, hx]
        by_cases c3 : (b t).1 = 1
        · rw [ifnn c3]; rw [if_pos c3] at main; exact main
        · rw [if_pos c3]; rw [if_neg c3] at main; exact main
      by_cases c3 : (a t).1 = 1
      · rw [ifnn c3]; exact fin 1 (by rw [if_pos c3])
      · rw [if_pos c3]; exact fin 0 (by rw [if_neg c3])
    · rw [if_neg c2, ifnn rfl, zwp_some, if_neg (fun q => c2 q.2)]
      exact jpo.rf
  · rw [if_neg c1, if_pos rfl, zwp_some, if_neg (fun q => c1 q.1)]
    exact jpo.rf
theorem pJ_askLine_91 {J R : Nat} {T : List Cl} {bar : Int} {σ0 : Zm} (hj : jok J R T bar σ0) {a : Ln} (ha : lsm a) {t : Nat} (ht : t < 32) {o2 : Nat} (h2 : zli 32 o2) (hd2 : o2 + 1 ≠ J + 1) (hd3 : o2 + 2 ≠ J + 1) (ha2 : ln 32 σ0 o2 = a) (hat : (a t).1 ≠ 0) {σ : Zm} (hf : zfo (oJ1 J) σ0 σ) (h9 : zrd σ (J + 1) 9 = lev a t bar 9) (h10 : zrd σ (J + 1) 10 = lev a t bar 10) : zwp (fJ_askLine_91 J R o2 (t : Int) σ) (fun _ σ' => jpo oJ J t (brk (lev a t bar) 1 T 0) σ0 σ') := by
  obtain ⟨h1, h2', h3, h4, h5, h6, h7⟩ := hj
  have e1 := h2.1
  have e2 := ha t
  have k1 : (a t).1 = zrd σ0 (o2 + 2) t := by rw [← ha2]; exact ln_1 ht
  have p1 : zrd σ0 (o2 + 1) t = (a t).2 := by rw [← ha2]; exact (ln_2 ht (by rw [← k1]; exact hat)).symm
  have hl : lra a t ≤ t := lra_le a t
  have e5 := emod_bd t bar ht h6
  have em : Int.tmod (t : Int) bar = (t : Int) % bar := Int.tmod_eq_emod_of_nonneg (by omega)
  unfold fJ_askLine_91
  rw [zckj (by omega) (by omega), zwp_let, zck_ok (by decide), zwp_let, Int.toNat_natCast, hf.rd (show ¬ oJ1 J (o2 + 1) from hd2), p1]
  have hf1 : zfo (oJ1 J) σ0 (zst σ (J + 1) 11 (a t).2) := hf.st rfl
  have hl1 : ln 32 (zst σ (J + 1) 11 (a t).2) o2 = a := by rw [ln_fo hf1 hd2 hd3, ha2]
  rw [zwp_bi, qL_restsAhead h2 _ t (by omega), zwp_some, hl1, zck_ok (by decide), zwp_let]
  have hf2 : zfo (oJ1 J) σ0 (zst (zst σ (J + 1) 11 (a t).2) (J + 1) 12 (zw (lra a t : Int))) := hf1.st rfl
  rw [zwp_let, hf2.rd (show ¬ oJ1 J J by unfold oJ1; omega), h5, zwp_dv]
  refine ⟨by omega, ?_⟩
  rw [zck_ok (by decide), zwp_let, zwp_bv]
  have hf3 : zfo (oJ1 J) σ0 (zst (zst (zst σ (J + 1) 11 (a t).2) (J + 1) 12 (zw (lra a t : Int))) (J + 1) 8 (Int.tmod (t : Int) bar)) := hf2.st rfl
  refine zwp_mono (qJ_askClauses h1 h2' (lev a t bar) (lev_bd ha ht h6) 1 t (Or.inr rfl) (zwj (by omega) (by omega)) T _ ?_ h4 ?_) (fun r σ' q => ?_)
  · exact TRc_fo hf3 (fun j hj q => h2' j hj (Or.inr (Or.inl q))) h3
  · intro j hj
    unfold nok at hj
    rw [if_neg (by decide), if_pos rfl] at hj
    rw [zrd_st, zrd_st, zrd_st, zw_w]
    have hj' : j = 8 ∨ j = 9 ∨ j = 10 ∨ j = 11 ∨ j = 12 := by omega
    rcases hj' with rfl | rfl | rfl | rfl | rfl
    · rw [if_pos ⟨rfl, rfl⟩, em, zwj (by omega) (by omega)]; rfl
    · rw [if_neg (by omega), if_neg (by omega), if_neg (by omega)]; exact h9
    · rw [if_neg (by omega), if_neg (by omega), if_neg (by omega)]; exact h10
    · rw [if_neg (by omega), if_neg (by omega), if_pos ⟨rfl, rfl⟩, zwj (by omega) (by omega)]; rfl
    · rw [if_neg (by omega), if_pos ⟨rfl, rfl⟩, zwj (by omega) (by omega)]; rfl
  · rw [zwp_some]
    exact jpo_nm hf3 q
theorem qJ_askLine {J R : Nat} {T : List Cl} {bar : Int} {σ0 : Zm} (hj : jok J R T bar σ0) {a : Ln} (ha : lsm a) {t : Nat} (ht : t < 32) {o2 : Nat} (h2 : zli 32 o2) (hd2 : o2 + 1 ≠ J + 1) (hd3 : o2 + 2 ≠ J + 1) (ha2 : ln 32 σ0 o2 = a) : zwp (fJ_askLine σ0 J R o2 (t : Int)) (fun _ σ' => jpo oJ J t (lbk T a t bar) σ0 σ') := by
  have e1 := h2.1
  have e2 := h2.2
  obtain ⟨n1, n2, n3⟩ := lna_lt a t
  have k1 : (a t).1 = zrd σ0 (o2 + 2) t := by rw [← ha2]; exact ln_1 ht
  have l1 : lsi a (t : Int) = if (a t).1 ≠ 0 then 1 else 0 := by
    unfold lsi
    rw [Int.toNat_natCast]
    exact ite_cg ⟨fun q => q.2, fun q => ⟨by omega, q⟩⟩
  unfold fJ_askLine lbk
  rw [zwp_bi, qL_noteAhead h2 (by omega) σ0 _ (by omega), zwp_some, ha2, Int.toNat_natCast, zwj (a := lna a t) (by omega) (by omega), zwp_bi, qL_sounds h2 σ0 _, zwp_some, ha2, lsi_w, l1]
  by_cases c1 : (a t).1 ≠ 0
  · rw [if_pos c1, if_neg (by decide), zckj (by omega) (by omega), zwp_let, ← k1]
    by_cases c2 : (a t).1 = 1
    · rw [ifnn c2]
      by_cases c3 : 0 ≤ lna a t
      · rw [if_pos c3, if_pos ⟨c2, c3⟩]
        have pv : ∀ x : Nat, x < 32 → (a x).1 = 1 → zrd σ0 (o2 + 1) x = (a x).2 := by
          intro x hx h
          rw [← ha2] at h ⊢
          rw [ln_1 hx] at h
          exact (ln_2 hx (by rw [h]; decide)).symm
        obtain ⟨m1, m2, m3⟩ := lna_lt a (lna a t).toNat
        have f1 := ha t
        have f2 := ha (lna a t).toNat
        have f3 := ha (lna a (lna a t).toNat).toNat
        rw [zwp_bi, qL_noteAhead h2 (by omega) σ0 _ (by omega), zwp_some, ha2, zwj (a := lna a (lna a t).toNat) (by omega) (by omega)]
        rw [zckj (by omega) (by omega), zwp_let, zckj (by omega) (by omega), zwp_let, zck_ok (by decide), zwp_let, pv t ht c2, pv _ (by omega) (n3 c3)]
        have hf1 : zfo (oJ1 J) σ0 (zst σ0 (J + 1) 9 ((a t).2 - (a (lna a t).toNat).2)) := zfo.rf.st rfl
        have fin : ∀ v : Int, zw v = lev a t bar 10 → zwp (fJ_askLine_91 J R o2 (t : Int) (zst (zst σ0 (J + 1) 9 ((a t).2 - (a (lna a t).toNat).2)) (J + 1) 10 v)) (fun _ σ' => jpo oJ J t (brk (lev a t bar) 1 T 0) σ0 σ') := by
          intro v hv
          refine pJ_askLine_91 hj ha ht h2 hd2 hd3 ha2 c1 (hf1.st rfl) ?_ ?_
          · rw [zrd_st, if_neg (by omega), zrd_st, if_pos ⟨rfl, rfl⟩, zwj (by omega) (by omega)]; rfl
          · rw [zrd_st, if_pos ⟨rfl, rfl⟩, hv]
        by_cases c4 : 0 ≤ lna a (lna a t).toNat
        · rw [if_pos c4, zckj (by omega) (by omega), zwp_let, zckj (by omega) (by omega), zwp_let, zck_ok (by decide), zwp_let]
          rw [hf1.rd (show ¬ oJ1 J (o2 + 1) from hd2), hf1.rd (show ¬ oJ1 J (o2 + 1) from hd2), pv _ (by omega) (n3 c3), pv _ (by omega) (m3 c4)]
          refine fin _ ?_
          rw [zwj (by omega) (by omega)]
          unfold lev
          rw [if_neg (by decide), if_neg (by decide), if_pos rfl, if_neg (by omega)]
        · rw [if_neg c4, zck_ok (by decide), zwp_let]
          refine fin _ ?_
          unfold lev
          rw [if_neg (by decide), if_neg (by decide), if_pos rfl, if_pos (by omega)]
          decide
      · rw [if_neg c3, zwp_some, if_neg (fun q => c3 q.2)]
        exact jpo.rf
    · rw [if_pos c2, zwp_some, if_neg (fun q => c2 q.1)]
      exact jpo.rf
  · rw [if_neg c1, if_pos rfl, zwp_some, if_neg (fun q => by rw [q.1] at c1; exact c1 (by decide))]
    exact jpo.rf

/-! MY OWN: lasts; what sets a number -/
def lst (N : Nat → Int) (len : Nat) (what : Int) : Nat → Int
  | 0 => -1
  | n + 1 => if lst N len what n < 0 then Int.tdiv ((len : Int) * N (30 + n)) (N (20 + n)) else if what = 0 then (if lst N len what n ≤ Int.tdiv ((len : Int) * N (30 + n)) (N (20 + n)) then lst N len what n else Int.tdiv ((len : Int) * N (30 + n)) (N (20 + n))) else (if Int.tdiv ((len : Int) * N (30 + n)) (N (20 + n)) ≤ lst N len what n then lst N len what n else Int.tdiv ((len : Int) * N (30 + n)) (N (20 + n)))
theorem lst_q {N : Nat → Int} {len n : Nat} (hl : len ≤ 32) (h : 1 ≤ N (20 + n) ∧ N (20 + n) ≤ 9999 ∧ 1 ≤ N (30 + n) ∧ N (30 + n) ≤ 9999) : (0 ≤ (len : Int) * N (30 + n) ∧ (len : Int) * N (30 + n) ≤ 320000) ∧ 0 ≤ Int.tdiv ((len : Int) * N (30 + n)) (N (20 + n)) ∧ Int.tdiv ((len : Int) * N (30 + n)) (N (20 + n)) ≤ 320000 := by
  obtain ⟨a, ha⟩ : ∃ a : Nat, N (20 + n) = (a : Int) := ⟨(N (20 + n)).toNat, by omega⟩
  obtain ⟨b, hb⟩ : ∃ b : Nat, N (30 + n) = (b : Int) := ⟨(N (30 + n)).toNat, by omega⟩
  rw [ha, hb] at h
  rw [ha, hb]
  have h1 : len * b ≤ 32 * 9999 := Nat.mul_le_mul hl (by omega)
  have h3 := tdv_bd (x := ((len * b : Nat) : Int)) (n := a) (by omega) (by omega)
  rw [show (len : Int) * (b : Int) = ((len * b : Nat) : Int) by rw [Int.natCast_mul]]
  generalize len * b = z at *
  omega
theorem lst_bd {N : Nat → Int} {len : Nat} (hl : len ≤ 32) (what : Int) (m : Nat) (h : ∀ n, n < m → 1 ≤ N (20 + n) ∧ N (20 + n) ≤ 9999 ∧ 1 ≤ N (30 + n) ∧ N (30 + n) ≤ 9999) : ∀ n, n ≤ m → (-1 ≤ lst N len what n ∧ lst N len what n ≤ 320000) ∧ (lst N len what n < 0 ↔ n = 0)
  | 0, _ => ⟨⟨Int.le_refl _, by show (-1 : Int) ≤ _; omega⟩, ⟨fun _ => rfl, fun _ => by show (-1 : Int) < 0; decide⟩⟩
  | n + 1, hn => by
    have ih := lst_bd hl what m h n (by omega)
    have hq := lst_q (n := n) hl (h n (by omega))
    unfold lst
    split
    · omega
    · split
      · split <;> omega
      · split <;> omega
theorem pX_lasts_35 {V U : Nat → Ln} {N : Nat → Int} {len : Nat} (hl : len ≤ 32) (what : Int) (σ : Zm) (hX : XN 1 σ N) (m : Nat) (hm10 : m ≤ 10) (hm : N 3 = (m : Int)) (h : ∀ n, n < m → 1 ≤ N (20 + n) ∧ N (20 + n) ≤ 9999 ∧ 1 ≤ N (30 + n) ∧ N (30 + n) ≤ 9999) : ∀ (d f n : Nat), d < f → n + d = m → fX_lasts_35 f what (len : Int) (lst N len what n) (n : Int) σ = some (lst N len what m, σ)
  | 0, f + 1, n, _, hn => by
    have : n = m := by omega
    subst this
    rw [fX_lasts_35]
    dsimp only [zlet]
    rw [hX.2.2.2.1, hm, if_pos (by omega)]
  | d + 1, f + 1, n, hf, hn => by
    have hb := lst_bd hl what m h n (by omega)
    have hN := h n (by omega)
    have hq := lst_q (n := n) hl hN
    have ih := pX_lasts_35 (V := V) (U := U) hl what σ hX m hm10 hm h d f (n + 1) (by omega) (by omega)
    have e : lst N len what (n + 1) = if lst N len what n < 0 then Int.tdiv ((len : Int) * N (30 + n)) (N (20 + n)) else if what = 0 then (if lst N len what n ≤ Int.tdiv ((len : Int) * N (30 + n)) (N (20 + n)) then lst N len what n else Int.tdiv ((len : Int) * N (30 + n)) (N (20 + n))) else (if Int.tdiv ((len : Int) * N (30 + n)) (N (20 + n)) ≤ lst N len what n then lst N len what n else Int.tdiv ((len : Int) * N (30 + n)) (N (20 + n))) := rfl
    rw [fX_lasts_35]
    dsimp only [zlet]
    rw [hX.2.2.2.1, hm, if_neg (by omega), zckj (by omega) (by omega), zckj (by omega) (by omega), Int.toNat_natCast, hX.2.2.2.2.2.2.1 n (by omega), hX.2.2.2.2.2.1 n (by omega), show max 1 (N (20 + n)) = N (20 + n) by omega, zwj (a := (len : Int) * N (30 + n)) (by omega) (by omega), zwj (a := Int.tdiv ((len : Int) * N (30 + n)) (N (20 + n))) (by omega) (by omega), show zw ((n : Int) + 1) = ((n + 1 : Nat) : Int) by rw [zwj (by omega) (by omega)]; omega]
    unfold zdv
    rw [if_neg (by omega)]
    by_cases c : n = 0
    · rw [if_pos (by omega)]
      rw [e, if_pos (by omega)] at ih
      exact ih
    · rw [if_neg (by omega)]
      rw [if_neg (by omega)] at e
      by_cases c1 : what = 0
      · rw [if_pos c1]
        rw [if_pos c1] at e
        by_cases c2 : lst N len what n ≤ Int.tdiv ((len : Int) * N (30 + n)) (N (20 + n))
        · rw [if_pos c2]
          rw [e, if_pos c2] at ih
          exact ih
        · rw [if_neg c2]
          rw [e, if_neg c2] at ih
          exact ih
      · rw [if_neg c1]
        rw [if_neg c1] at e
        by_cases c2 : Int.tdiv ((len : Int) * N (30 + n)) (N (20 + n)) ≤ lst N len what n
        · rw [if_pos c2]
          rw [e, if_pos c2] at ih
          exact ih
        · rw [if_neg c2]
          rw [e, if_neg c2] at ih
          exact ih
theorem pM_lasts_30 {N : Nat → Int} {len : Nat} (hl : len ≤ 32) (what : Int) (σ : Zm) (hX : MSn 274 σ N) (m : Nat) (hm10 : m ≤ 10) (hm : N 3 = (m : Int)) (h : ∀ n, n < m → 1 ≤ N (20 + n) ∧ N (20 + n) ≤ 9999 ∧ 1 ≤ N (30 + n) ∧ N (30 + n) ≤ 9999) : ∀ (d f n : Nat), d < f → n + d = m → fM_lasts_30 f what (len : Int) (lst N len what n) (n : Int) σ = some (lst N len what m, σ)
  | 0, f + 1, n, _, hn => by
    have : n = m := by omega
    subst this
    rw [fM_lasts_30]
    dsimp only [zlet]
    rw [zckj (by decide) (by decide), hX.1 3 (by omega), hm, if_pos (by omega)]
  | d + 1, f + 1, n, hf, hn => by
    have hb := lst_bd hl what m h n (by omega)
    have hN := h n (by omega)
    have hq := lst_q (n := n) hl hN
    have ih := pM_lasts_30 hl what σ hX m hm10 hm h d f (n + 1) (by omega) (by omega)
    have e : lst N len what (n + 1) = if lst N len what n < 0 then Int.tdiv ((len : Int) * N (30 + n)) (N (20 + n)) else if what = 0 then (if lst N len what n ≤ Int.tdiv ((len : Int) * N (30 + n)) (N (20 + n)) then lst N len what n else Int.tdiv ((len : Int) * N (30 + n)) (N (20 + n))) else (if Int.tdiv ((len : Int) * N (30 + n)) (N (20 + n)) ≤ lst N len what n then lst N len what n else Int.tdiv ((len : Int) * N (30 + n)) (N (20 + n))) := rfl
    rw [fM_lasts_30]
    dsimp only [zlet]
    rw [zckj (by decide) (by decide), hX.1 3 (by omega), hm, if_neg (by omega), show zw (620 + 2 * (n : Int) + 1) = ((620 + 2 * n + 1 : Nat) : Int) by rw [zwj (by omega) (by omega)]; omega, show zw (620 + 2 * (n : Int)) = ((620 + 2 * n : Nat) : Int) by rw [zwj (by omega) (by omega)]; omega, zckj (by omega) (by omega), zckj (by omega) (by omega), Int.toNat_natCast, Int.toNat_natCast, (hX.2.2.1 n (by omega)).1, (hX.2.2.1 n (by omega)).2, zwj (a := (len : Int) * N (30 + n)) (by omega) (by omega), zwj (a := Int.tdiv ((len : Int) * N (30 + n)) (N (20 + n))) (by omega) (by omega), show zw ((n : Int) + 1) = ((n + 1 : Nat) : Int) by rw [zwj (by omega) (by omega)]; omega]
    unfold zdv
    rw [if_neg (by omega)]
    by_cases c : n = 0
    · rw [if_pos (by omega)]
      rw [e, if_pos (by omega)] at ih
      exact ih
    · rw [if_neg (by omega)]
      rw [if_neg (by omega)] at e
      by_cases c1 : what = 0
      · rw [if_pos c1]
        rw [if_pos c1] at e
        by_cases c2 : lst N len what n ≤ Int.tdiv ((len : Int) * N (30 + n)) (N (20 + n))
        · rw [if_pos c2]
          rw [e, if_pos c2] at ih
          exact ih
        · rw [if_neg c2]
          rw [e, if_neg c2] at ih
          exact ih
      · rw [if_neg c1]
        rw [if_neg c1] at e
        by_cases c2 : Int.tdiv ((len : Int) * N (30 + n)) (N (20 + n)) ≤ lst N len what n
        · rw [if_pos c2]
          rw [e, if_pos c2] at ih
          exact ih
        · rw [if_neg c2]
          rw [e, if_neg c2] at ih
          exact ih
theorem plen_le (V : Nat → Ln) (p : Nat) : plen V p ≤ 32 := by
  have := fun a : Ln => pbt_le (fun t => (a t).1) 32
  have h0 := this (V (4 * p))
  have h1 := this (V (4 * p + 1))
  have h2 := this (V (4 * p + 2))
  have h3 := this (V (4 * p + 3))
  unfold plen lbt
  omega
theorem st_lasts (x1 x2 : Int) : St (fun σ => fX_lasts σ x1 x2) (fun σ => fM_lasts σ x1 x2) := by
  intro σ h
  have hI := h
  obtain ⟨w, p, g, gp, hX, hM, hXT, hMP⟩ := h
  show zwp (fX_lasts σ x1 x2) (fun r1 σ1 => zwp (fM_lasts σ1 x1 x2) (fun r2 σ2 => r1 = r2 ∧ Inv σ2))
  have hn := (GI_n g).2.2.2
  by_cases c : 0 ≤ x1 ∧ x1 ≤ 3
  · obtain ⟨y, rfl, hy⟩ := nat_of (x := x1) (n := 4) (by omega)
    obtain ⟨m, hm⟩ : ∃ m : Nat, wN w 3 = (m : Int) := ⟨(wN w 3).toNat, by omega⟩
    have hpl := plen_le (wV w) y
    by_cases c2 : m = 0
    · have e1 : fX_lasts σ (y : Int) x2 = some (-1, σ) := by
        unfold fX_lasts
        rw [xPiece_t c, if_neg (by decide)]
        dsimp only [zlet]
        rw [hX.1.2.2.2.2.2.1, if_neg (by omega)]
      have e2 : fM_lasts σ (y : Int) x2 = some (-1, σ) := by
        unfold fM_lasts
        rw [mPiece_t c, if_neg (by decide), zckj (by decide) (by decide)]
        dsimp only [zlet]
        rw [hM.1.2.2.1 3 (by omega), if_neg (by omega)]
      exact St_neg (G := fun σ => fM_lasts σ (y : Int) x2) hI e1 e2
    · have hw : ∀ n, n < m → 1 ≤ wN w (20 + n) ∧ wN w (20 + n) ≤ 9999 ∧ 1 ≤ wN w (30 + n) ∧ wN w (30 + n) ≤ 9999 := fun n hn2 => g.1.2.2.2.2.2.2.2.1 n (by omega) (by omega)
      have e1 : fX_lasts σ (y : Int) x2 = some (lst (wN w) (plen (wV w) y) x2 m, σ) := by
        unfold fX_lasts
        rw [xPiece_t c, if_neg (by decide)]
        dsimp only [zlet]
        rw [hX.1.2.2.2.2.2.1, if_pos (by omega), zbi_eq (qS_lengthOf (Or.inl rfl) σ (wV w) hX.1.1 y hy), zwj (a := (plen (wV w) y : Int)) (by omega) (by omega)]
        exact pX_lasts_35 (V := wV w) (U := wU w) hpl x2 σ hX.1.2.2 m (by omega) hm hw m 5000 0 (by omega) (by omega)
      have e2 : fM_lasts σ (y : Int) x2 = some (lst (wN w) (plen (wV w) y) x2 m, σ) := by
        unfold fM_lasts
        rw [mPiece_t c, if_neg (by decide), zckj (by decide) (by decide)]
        dsimp only [zlet]
        rw [hM.1.2.2.1 3 (by omega), if_pos (by omega), zbi_eq (qM_lengthOf g.1.1 y hy σ hM.1.1), zwj (a := (plen (wV w) y : Int)) (by omega) (by omega)]
        exact pM_lasts_30 hpl x2 σ hM.1.2.2 m (by omega) hm hw m 5000 0 (by omega) (by omega)
      exact St_neg (G := fun σ => fM_lasts σ (y : Int) x2) hI e1 e2
  · have e1 : fX_lasts σ x1 x2 = some (-1, σ) := by
      unfold fX_lasts
      rw [xPiece_f c, if_pos rfl]
    have e2 : fM_lasts σ x1 x2 = some (-1, σ) := by
      unfold fM_lasts
      rw [mPiece_f c, if_pos rfl]
    exact St_neg (G := fun σ => fM_lasts σ x1 x2) hI e1 e2
/-! one number is set -/
def updN (N : Nat → Int) (n : Nat) (v : Int) : Nat → Int := fun k => if k = n then v else N k
theorem XN_st {σ σ' : Zm} {N : Nat → Int} (h : XN 1 σ N) {q k n : Nat} {v : Int} (hc : (q = 1 ∧ ((k = 7 ∧ n = 0) ∨ (k = 8 ∧ n = 1) ∨ (k = 10 ∧ n = 2) ∨ (k = 9 ∧ n = 3))) ∨ (q = 4 ∧ k < 4 ∧ n = 10 + k) ∨ (q = 6 ∧ k < 10 ∧ n = 20 + k) ∨ (q = 7 ∧ k < 10 ∧ n = 30 + k) ∨ (q = 8 ∧ k < 32 ∧ n = 40 + k) ∨ (q = 5 ∧ k < 6 ∧ n = 80 + k)) (f : zfo (oO q) σ σ') (vq : ∀ j, zrd σ' q j = if j = k then zw v else zrd σ q j) (hv : zw v = v) : XN 1 σ' (updN N n v) := by
  have rd : ∀ p j, zrd σ' p j = if p = q ∧ j = k then v else zrd σ p j := by
    intro p j
    by_cases c : p = q
    · rw [c, vq j, hv]
      by_cases d : j = k
      · rw [if_pos d, if_pos ⟨rfl, d⟩]
      · rw [if_neg d, if_neg (fun z => d z.2)]
    · rw [if_neg (fun z => c z.1)]
      exact f.rd (oO_ne c) j
  obtain ⟨h1, h2, h3, h4, h5, h6, h7, h8, h9⟩ := h
  have one : ∀ p j i, zrd σ p j = N i → (p = q ∧ j = k → i = n) → (i = n → p = q ∧ j = k) → zrd σ' p j = updN N n v i := by
    intro p j i e a b
    rw [rd]
    unfold updN
    by_cases c : p = q ∧ j = k
    · rw [if_pos c, if_pos (a c)]
    · rw [if_neg c, if_neg (fun z => c (b z))]
      exact e
  refine ⟨one _ _ _ h1 (by omega) (by omega), one _ _ _ h2 (by omega) (by omega), one _ _ _ h3 (by omega) (by omega), one _ _ _ h4 (by omega) (by omega), fun j hj => one _ _ _ (h5 j hj) (by omega) (by omega), fun j hj => one _ _ _ (h6 j hj) (by omega) (by omega), fun j hj => one _ _ _ (h7 j hj) (by omega) (by omega), fun j hj => one _ _ _ (h8 j hj) (by omega) (by omega), fun j hj => one _ _ _ (h9 j hj) (by omega) (by omega)⟩
theorem MS_st {σ σ' : Zm} {V U : Nat → Ln} {N : Nat → Int} (h : MS 274 σ V U N) {k n : Nat} {v : Int} (hc : (k = n ∧ n < 4) ∨ (∃ j, j < 4 ∧ k = 610 + j ∧ n = 10 + j) ∨ (∃ j, j < 10 ∧ k = 620 + 2 * j ∧ n = 20 + j) ∨ (∃ j, j < 10 ∧ k = 620 + 2 * j + 1 ∧ n = 30 + j) ∨ (∃ j, j < 32 ∧ k = 650 + j ∧ n = 40 + j) ∨ (∃ j, j < 6 ∧ k = 690 + j ∧ n = 80 + j)) (vq : ∀ j, zrd σ' 274 j = if j = k then zw v else zrd σ 274 j) (hv : zw v = v) : MS 274 σ' V U (updN N n v) := by
  rw [hv] at vq
  obtain ⟨a1, a2, h1, h2, h3, h4, h5⟩ := h
  have hk : (k = n ∧ n < 4) ∨ (610 ≤ k ∧ k < 614 ∧ n + 600 = k) ∨ (620 ≤ k ∧ k < 640 ∧ ((k = 620 + 2 * (n - 20) ∧ 20 ≤ n ∧ n < 30) ∨ (k = 620 + 2 * (n - 30) + 1 ∧ 30 ≤ n ∧ n < 40))) ∨ (650 ≤ k ∧ k < 682 ∧ n + 610 = k) ∨ (690 ≤ k ∧ k < 696 ∧ n + 610 = k) := by
    rcases hc with z | ⟨j, z⟩ | ⟨j, z⟩ | ⟨j, z⟩ | ⟨j, z⟩ | ⟨j, z⟩ <;> omega
  clear hc
  have one : ∀ j i, zrd σ 274 j = N i → (j = k → i = n) → (i = n → j = k) → zrd σ' 274 j = updN N n v i := by
    intro j i e a b
    rw [vq]
    unfold updN
    by_cases c : j = k
    · rw [if_pos c, if_pos (a c)]
    · rw [if_neg c, if_neg (fun z => c (b z))]
      exact e
  refine ⟨fun i t hi ht => ?_, fun s b hs hb => ?_, fun j hj => one _ _ (h1 j hj) (by omega) (by omega), fun j hj => one _ _ (h2 j hj) (by omega) (by omega), fun j hj => ⟨one _ _ (h3 j hj).1 (by omega) (by omega), one _ _ (h3 j hj).2 (by omega) (by omega)⟩, fun j hj => one _ _ (h4 j hj) (by omega) (by omega), fun j hj => one _ _ (h5 j hj) (by omega) (by omega)⟩
  · rw [vq, if_neg (by omega)]
    exact a1 i t hi ht
  · rw [vq, if_neg (by omega)]
    exact a2 s b hs hb

/-! MY OWN: notes that are made: what each costs, the least of all; the class's Maker -/
/-- a voice that ended ahead of e, with the last three of j + 1 made notes -/
def nl (a : Ln) (e j : Nat) (p2 p1 p : Int) : Ln := fun t => if t = e + j then (1, p) else if 1 ≤ j ∧ t + 1 = e + j then (1, p1) else if 2 ≤ j ∧ t + 2 = e + j then (1, p2) else if t < e then a t else (0, 0)
def vvs (W : Nat → Ln) (vv : Nat) (l : Ln) (i : Nat) : Ln := if i = vv then l else W i
def pp1 (T : List Cl) (W : Nat → Ln) (vv : Nat) (l : Ln) (t : Nat) (bar : Int) (o : Nat) : Int := if o = vv then 0 else bsum (pbk T (vvs W vv l (min vv o)) (vvs W vv l (max vv o)) t bar)
def pps (T : List Cl) (W : Nat → Ln) (vv : Nat) (l : Ln) (t : Nat) (bar : Int) : Nat → Int
  | 0 => 0
  | o + 1 => pps T W vv l t bar o + pp1 T W vv l t bar o
def cst (T : List Cl) (W : Nat → Ln) (vv e : Nat) (bar : Int) (j : Nat) (p2 p1 p : Int) : Int := pps T W vv (nl (W vv) e j p2 p1 p) (e + j) bar 4 + bsum (lbk T (nl (W vv) e j p2 p1 p) (e + j) bar)
/-- the least of k notes from the j-th on, behind p2, p1 -/
def hmn (c : Nat → Int → Int → Int → Int) (lo : Int) (many : Nat) : Nat → Nat → Int → Int → Int
  | 0, _, _, _ => 0
  | k + 1, j, p2, p1 => (bst (fun x => c j p2 p1 (lo + (x : Int)) + hmn c lo many k (j + 1) p1 (lo + (x : Int))) many).1
def hmf (c : Nat → Int → Int → Int → Int) (lo : Int) (many k j : Nat) (p2 p1 : Int) (x : Nat) : Int := c j p2 p1 (lo + (x : Int)) + hmn c lo many k (j + 1) p1 (lo + (x : Int))
theorem lbk_loc {T : List Cl} {a b : Ln} {t : Nat} {bar : Int} (h : ∀ x, x ≤ t → a x = b x) : lbk T a t bar = lbk T b t bar := by
  have e1 : ∀ x, x ≤ t + 1 → lna a x = lna b x := fun x hx => pna_cg x (fun y hy => by rw [h y (by omega)])
  have e2 : lra a t = lra b t := pra_cg t (fun y hy => by rw [h y (by omega)])
  obtain ⟨n1, n2, n3⟩ := lna_lt b t
  obtain ⟨m1, m2, m3⟩ := lna_lt b (lna b t).toNat
  unfold lbk
  rw [h t (Nat.le_refl _), e1 t (by omega)]
  by_cases c : (b t).1 = 1 ∧ 0 ≤ lna b t
  · rw [if_pos c, if_pos c]
    have e3 : lev a t bar = lev b t bar := by
      funext k
      unfold lev
      rw [h t (Nat.le_refl _), e1 t (by omega), e2, h (lna b t).toNat (by omega), e1 (lna b t).toNat (by omega)]
      by_cases c2 : lna b (lna b t).toNat < 0
      · simp only [if_pos c2]
      · rw [h (lna b (lna b t).toNat).toNat (by omega)]
    rw [e3]
  · rw [if_neg c, if_neg c]
theorem lbk_loc2 {T : List Cl} {a b : Ln} {t : Nat} {bar : Int} (h0 : a (t + 2) = b (t + 2)) (h1 : a (t + 1) = b (t + 1)) (h2 : a t = b t) (k1 : (a (t + 1)).1 = 1) (k2 : (a t).1 = 1) : lbk T a (t + 2) bar = lbk T b (t + 2) bar := by
  have la : ∀ a : Ln, (a (t + 1)).1 = 1 → lna a (t + 2) = ((t + 1 : Nat) : Int) := fun a h => by rw [lna_succ, if_pos h]
  have lb : ∀ a : Ln, (a t).1 = 1 → lna a (t + 1) = (t : Int) := fun a h => by rw [lna_succ, if_pos h]
  have lr : ∀ a : Ln, (a (t + 1)).1 = 1 → lra a (t + 2) = 0 := fun a h => by
    show (if (a (t + 1)).1 = 0 then _ else 0) = 0
    rw [if_neg (by rw [h]; decide)]
  have k1b : (b (t + 1)).1 = 1 := by rw [← h1]; exact k1
  have k2b : (b t).1 = 1 := by rw [← h2]; exact k2
  unfold lbk
  rw [h0, la a k1, la b k1b]
  have e3 : lev a (t + 2) bar = lev b (t + 2) bar := by
    funext k
    unfold lev
    rw [h0, la a k1, la b k1b, lr a k1, lr b k1b, Int.toNat_natCast, lb a k2, lb b k2b, Int.toNat_natCast, h1, h2]
  rw [e3]
theorem pbk_loc {T : List Cl} {a b a' b' : Ln} {t : Nat} {bar : Int} (h0 : a t = a' t) (h1 : b t = b' t) (h2 : 1 ≤ t → a (t - 1) = a' (t - 1)) (h3 : 1 ≤ t → b (t - 1) = b' (t - 1)) : pbk T a b t bar = pbk T a' b' t bar := by
  unfold pbk
  rw [h0, h1]
  have e : pev a b t bar = pev a' b' t bar := by
    funext k
    unfold pev
    rw [h0, h1]
    by_cases c : 1 ≤ t
    · rw [h2 c, h3 c]
    · simp [c]
  rw [e]
theorem pp1_bd {T : List Cl} (hT : T.length ≤ 10) (W : Nat → Ln) (vv : Nat) (l : Ln) (t : Nat) (bar : Int) (o : Nat) : 0 ≤ pp1 T W vv l t bar o ∧ pp1 T W vv l t bar o ≤ 9990 := by
  unfold pp1
  split
  · omega
  · have := pbk_bd hT (vvs W vv l (min vv o)) (vvs W vv l (max vv o)) t bar
    omega
theorem pps_bd {T : List Cl} (hT : T.length ≤ 10) (W : Nat → Ln) (vv : Nat) (l : Ln) (t : Nat) (bar : Int) : ∀ o : Nat, 0 ≤ pps T W vv l t bar o ∧ pps T W vv l t bar o ≤ 9990 * (o : Int)
  | 0 => by simp [pps]
  | o + 1 => by
    have h1 := pps_bd hT W vv l t bar o
    have h2 := pp1_bd hT W vv l t bar o
    unfold pps
    omega
theorem cst_bd {T : List Cl} (hT : T.length ≤ 10) (W : Nat → Ln) (vv e : Nat) (bar : Int) (j : Nat) (p2 p1 p : Int) : 0 ≤ cst T W vv e bar j p2 p1 p ∧ cst T W vv e bar j p2 p1 p ≤ 50000 := by
  have h1 := pps_bd hT W vv (nl (W vv) e j p2 p1 p) (e + j) bar 4
  have h2 := lbk_bd hT (nl (W vv) e j p2 p1 p) (e + j) bar
  unfold cst
  omega
theorem bst_min {P : Nat → Int} : ∀ n : Nat, (bst P n).1 = 2147483647 ∨ ∃ k, k < n ∧ (bst P n).1 = P k
  | 0 => Or.inl rfl
  | n + 1 => by
    unfold bst
    split
    · exact Or.inr ⟨n, by omega, rfl⟩
    · rcases bst_min n with h | ⟨k, h1, h2⟩
      · exact Or.inl h
      · exact Or.inr ⟨k, by omega, h2⟩
theorem hmn_bd {c : Nat → Int → Int → Int → Int} {lo : Int} {many : Nat} (hm : 1 ≤ many) (hc : ∀ j p2 p1 p, 0 ≤ c j p2 p1 p ∧ c j p2 p1 p ≤ 50000) : ∀ (k j : Nat) (p2 p1 : Int), k ≤ 1000 → 0 ≤ hmn c lo many k j p2 p1 ∧ hmn c lo many k j p2 p1 ≤ 50000 * (k : Int)
  | 0, _, _, _, _ => by simp [hmn]
  | k + 1, j, p2, p1, hk => by
    have ih := fun p2 p1 => hmn_bd hm hc (lo := lo) k (j + 1) p2 p1 (by omega)
    have hP : ∀ x : Nat, 0 ≤ c j p2 p1 (lo + (x : Int)) + hmn c lo many k (j + 1) p1 (lo + (x : Int)) ∧ c j p2 p1 (lo + (x : Int)) + hmn c lo many k (j + 1) p1 (lo + (x : Int)) ≤ 50000 * ((k : Int) + 1) := by
      intro x
      have h1 := ih p1 (lo + (x : Int))
      have h2 := hc j p2 p1 (lo + (x : Int))
      omega
    have hl := bst_le (fun x : Nat => c j p2 p1 (lo + (x : Int)) + hmn c lo many k (j + 1) p1 (lo + (x : Int))) many 0 (by omega)
    have h0 := hP 0
    unfold hmn
    rcases bst_min (P := fun x : Nat => c j p2 p1 (lo + (x : Int)) + hmn c lo many k (j + 1) p1 (lo + (x : Int))) many with h | ⟨x, h1, h2⟩
    · rw [h] at hl ⊢
      have hl' : 2147483647 ≤ c j p2 p1 (lo + ((0 : Nat) : Int)) + hmn c lo many k (j + 1) p1 (lo + ((0 : Nat) : Int)) := hl
      omega
    · rw [h2]
      have h3 := hP x
      show 0 ≤ c j p2 p1 (lo + (x : Int)) + hmn c lo many k (j + 1) p1 (lo + (x : Int)) ∧ c j p2 p1 (lo + (x : Int)) + hmn c lo many k (j + 1) p1 (lo + (x : Int)) ≤ _
      omega
theorem hmn_01 {T : List Cl} {W : Nat → Ln} {vv e : Nat} {bar lo : Int} {many k : Nat} (p2 p2' p1 : Int) : hmn (cst T W vv e bar) lo many k 1 p2 p1 = hmn (cst T W vv e bar) lo many k 1 p2' p1 := by
  cases k with
  | zero => rfl
  | succ k =>
    have e1 : ∀ p, nl (W vv) e 1 p2 p1 p = nl (W vv) e 1 p2' p1 p := by
      intro p
      funext t
      unfold nl
      simp
    unfold hmn
    have e2 : ∀ p, cst T W vv e bar 1 p2 p1 p = cst T W vv e bar 1 p2' p1 p := by
      intro p
      unfold cst
      rw [e1]
    simp only [e2]
def oK (q : Nat) : Prop := 177 ≤ q ∧ q ≤ 209
theorem zK_v {v : Nat} (h : v < 4) : zRF 182 v = 198 + 3 * v ∧ zli 32 (198 + 3 * v) := by
  have h2 : ∀ v : Nat, v < 4 → zRF 182 v = 198 + 3 * v ∧ (zLN (198 + 3 * v + 1) = 32 ∧ zLN (198 + 3 * v + 2) = 32) := by decide +kernel
  exact h2 v h
theorem zK_l {j : Nat} (h : j < 6) : zRF 183 j = 184 + j ∧ zLN (184 + j) = 225 ∧ zRF 190 j = 191 + j ∧ zLN (191 + j) = 225 := by
  have h2 : ∀ j : Nat, j < 6 → zRF 183 j = 184 + j ∧ zLN (184 + j) = 225 ∧ zRF 190 j = 191 + j ∧ zLN (191 + j) = 225 := by decide +kernel
  exact h2 j h
/-- the maker's surroundings: R, T, bar; voices W, the voice vv, its end e, n notes, lowest lo, many -/
def KI (R : Nat) (T : List Cl) (bar : Int) (W : Nat → Ln) (vv e n : Nat) (lo : Int) (many : Nat) (σ : Zm) : Prop :=
  jok 178 R T bar σ ∧ (zrd σ 177 5 = (vv : Int) ∧ zrd σ 177 6 = (e : Int) ∧ zrd σ 177 7 = (n : Int) ∧ zrd σ 177 8 = lo ∧ zrd σ 177 9 = (many : Int)) ∧ (∀ i, i < 4 → i ≠ vv → ln 32 σ (198 + 3 * i) = W i) ∧ (∀ x, x < e → ln 32 σ (198 + 3 * vv) x = W vv x) ∧ (∀ x, e ≤ x → (ln 32 σ (198 + 3 * vv) x).1 ≠ 2) ∧ lsm (ln 32 σ (198 + 3 * vv))
/-- what never changes in a call -/
def KC (R : Nat) (W : Nat → Ln) (vv e n : Nat) (lo : Int) (many : Nat) : Prop := ru R ∧ (∀ i, lsm (W i)) ∧ vv < 4 ∧ 1 ≤ e ∧ e + n ≤ 32 ∧ 1 ≤ n ∧ n ≤ 5 ∧ 0 ≤ lo ∧ lo ≤ 60 ∧ 1 ≤ many ∧ many ≤ 15 ∧ lo + (many : Int) ≤ 61
def oKl (vv q : Nat) : Prop := q = 198 + 3 * vv + 1 ∨ q = 198 + 3 * vv + 2
theorem qK_singAt {R : Nat} {T : List Cl} {bar : Int} {W : Nat → Ln} {vv e n : Nat} {lo : Int} {many : Nat} {σ : Zm} (hc : KC R W vv e n lo many) (hk : KI R T bar W vv e n lo many σ) (j x : Nat) (hj : j < n) (hx : x < many) : zwp (fK_singAt σ (j : Int) (x : Int)) (fun _ σ' => zfo (oKl vv) σ σ' ∧ KI R T bar W vv e n lo many σ' ∧ ∀ t, ln 32 σ' (198 + 3 * vv) t = if t = e + j then (1, lo + (x : Int)) else ln 32 σ (198 + 3 * vv) t) := by
  obtain ⟨c1, c2, c3, c4, c5, c6, c7, c8, c9, c10, c11, c12⟩ := hc
  obtain ⟨k1, ⟨k2, k3, k4, k5, k6⟩, k7, k8, k9, k10⟩ := hk
  obtain ⟨z1, z2⟩ := zK_v c3
  unfold fK_singAt
  rw [if_neg (by omega)]
  simp only [zwp_let]
  rw [k2, k3, k5, zckj (by omega) (by omega), zwp_let, zwp_let, zwp_bv, Int.toNat_natCast, z1, show zw ((e : Int) + (j : Int)) = ((e + j : Nat) : Int) from zwj (by omega) (by omega), zwj (a := lo + (x : Int)) (by omega) (by omega)]
  refine zwp_mono (pL_sing (198 + 3 * vv) 32 z2 (by omega) σ (e + j) 1 (lo + (x : Int)) (zwj (by omega) (by omega)) (by omega) (by omega)) (fun r σ1 ⟨f1, l1, _⟩ => ?_)
  rw [zwp_some]
  have f1' : zfo (oKl vv) σ σ1 := f1.mono (fun q h => by unfold oD at h; unfold oKl; omega)
  have lv : ∀ t, ln 32 σ1 (198 + 3 * vv) t = if t = e + j then (1, lo + (x : Int)) else ln 32 σ (198 + 3 * vv) t := by
    intro t
    rw [l1]
    unfold lsing
    by_cases c : t = e + j
    · rw [if_pos c, if_pos c]
    · rw [if_neg c, if_neg c, if_neg (by omega), if_neg]
      rintro ⟨q1, q2⟩
      exact k9 t (by omega) q2
  refine ⟨f1', ⟨?_, ?_, ?_, ?_, ?_, ?_⟩, lv⟩
  · obtain ⟨q1, q2, q3, q4, q5, q6, q7⟩ := k1
    refine ⟨q1, q2, TRc_fo f1' (fun i hi => by have := c1.1; unfold oKl; omega) q3, q4, ?_, q6, q7⟩
    rw [f1'.rd (by unfold oKl; omega)]
    exact q5
  · rw [f1'.rd (by unfold oKl; omega), f1'.rd (by unfold oKl; omega), f1'.rd (by unfold oKl; omega), f1'.rd (by unfold oKl; omega), f1'.rd (by unfold oKl; omega)]
    exact ⟨k2, k3, k4, k5, k6⟩
  · intro i hi hne
    rw [ln_fo f1' (by unfold oKl; omega) (by unfold oKl; omega)]
    exact k7 i hi hne
  · intro t ht
    rw [lv, if_neg (by omega)]
    exact k8 t ht
  · intro t ht
    rw [lv]
    split
    · show (1 : Int) ≠ 2
      decide
    · exact k9 t ht
  · intro t
    rw [lv]
    split
    · simp only []; omega
    · exact k10 t
theorem KI_j {R : Nat} {T : List Cl} {bar : Int} {W : Nat → Ln} {vv e n : Nat} {lo : Int} {many : Nat} {σ σ1 : Zm} (hk : KI R T bar W vv e n lo many σ) (hf : zfo (oJ 178) σ σ1) (hR : ru R) (h3 : zrd σ1 178 3 = zrd σ 178 3) : KI R T bar W vv e n lo many σ1 := by
  obtain ⟨⟨q1, q2, q3, q4, q5, q6, q7⟩, ⟨k2, k3, k4, k5, k6⟩, k7, k8, k9, k10⟩ := hk
  have el : ∀ i, ln 32 σ1 (198 + 3 * i) = ln 32 σ (198 + 3 * i) := fun i => ln_fo hf (by unfold oJ; omega) (by unfold oJ; omega)
  refine ⟨⟨q1, q2, TRc_fo hf q2 q3, q4, by rw [h3]; exact q5, q6, q7⟩, ?_, fun i hi hne => ?_, fun x hx => ?_, fun x hx => ?_, ?_⟩
  · rw [hf.rd (by unfold oJ; omega), hf.rd (by unfold oJ; omega), hf.rd (by unfold oJ; omega), hf.rd (by unfold oJ; omega), hf.rd (by unfold oJ; omega)]
    exact ⟨k2, k3, k4, k5, k6⟩
  · rw [el]; exact k7 i hi hne
  · rw [el]; exact k8 x hx
  · rw [el]; exact k9 x hx
  · rw [el]; exact k10
theorem KI_lok {R : Nat} {T : List Cl} {bar : Int} {W : Nat → Ln} {vv e n : Nat} {lo : Int} {many : Nat} {σ : Zm} (hc : KC R W vv e n lo many) (hk : KI R T bar W vv e n lo many σ) {i : Nat} (hi : i < 4) : lok 178 (198 + 3 * i) (vvs W vv (ln 32 σ (198 + 3 * vv)) i) σ := by
  obtain ⟨z1, z2⟩ := zK_v hi
  refine ⟨z2, by unfold oJ; omega, by unfold oJ; omega, ?_, ?_⟩
  · unfold vvs
    by_cases c : i = vv
    · rw [if_pos c, c]
    · rw [if_neg c]; exact hk.2.2.1 i hi c
  · unfold vvs
    by_cases c : i = vv
    · rw [if_pos c]; exact hk.2.2.2.2.2
    · rw [if_neg c]; exact hc.2.1 i
theorem pK_pairPrice_10 {R : Nat} {T : List Cl} {bar : Int} {W : Nat → Ln} {vv e n : Nat} {lo : Int} {many : Nat} (hc : KC R W vv e n lo many) (l : Ln) (t : Nat) (ht : t < 32) (σ0 : Zm) : ∀ (d m o : Nat) (σ : Zm), d < m → o + d = 4 → fpo 178 σ0 σ → KI R T bar W vv e n lo many σ → ln 32 σ (198 + 3 * vv) = l → zrd σ 178 6 = pps T W vv l t bar o → zwp (fK_pairPrice_10 m R (t : Int) (o : Int) σ) (fun r σ' => fpo 178 σ0 σ' ∧ KI R T bar W vv e n lo many σ' ∧ r = pps T W vv l t bar 4 ∧ ln 32 σ' (198 + 3 * vv) = l)
  | 0, m + 1, o, σ, _, ho, hf, hk, hl, h6 => by
    rw [fK_pairPrice_10]
    simp only [zwp_let]
    have : o = 4 := by omega
    subst this
    rw [if_pos (by omega), zwp_let, zwp_some]
    exact ⟨hf, hk, h6, hl⟩
  | d + 1, m + 1, o, σ, hm, ho, hf, hk, hl, h6 => by
    have hT := hk.1.2.2.1.2.1
    have c3 := hc.2.2.1
    have ez : zw ((o : Int) + 1) = ((o + 1 : Nat) : Int) := zwj (by omega) (by omega)
    have est : pps T W vv l t bar (o + 1) = pps T W vv l t bar o + pp1 T W vv l t bar o := rfl
    have b1 := pps_bd hT W vv l t bar o
    have b2 := pp1_bd hT W vv l t bar o
    rw [fK_pairPrice_10]
    simp only [zwp_let]
    rw [if_neg (by omega), zwp_let, hk.2.1.1, ez]
    by_cases c : o = vv
    · rw [if_pos (by omega)]
      refine pK_pairPrice_10 hc l t ht σ0 d m (o + 1) σ (by omega) (by omega) hf hk hl ?_
      rw [est, h6]
      unfold pp1
      rw [if_pos c, Int.add_zero]
    · rw [if_neg (by omega)]
      simp only [zwp_let]
      rw [show min (vv : Int) (o : Int) = ((min vv o : Nat) : Int) by omega, zckj (by omega) (by omega), zwp_let, zwp_let, show max (vv : Int) (o : Int) = ((max vv o : Nat) : Int) by omega, zckj (by omega) (by omega), zwp_bv, Int.toNat_natCast, Int.toNat_natCast, (zK_v (v := min vv o) (by omega)).1, (zK_v (v := max vv o) (by omega)).1]
      obtain ⟨a1, a2, a3, a4, a5⟩ := KI_lok hc hk (i := min vv o) (by omega)
      obtain ⟨b1', b2', b3', b4', b5'⟩ := KI_lok hc hk (i := max vv o) (by omega)
      refine zwp_mono (qJ_askPair hk.1 a5 b5' ht a1 (fun q => a2 (Or.inr (Or.inl q))) a4 b1' (fun q => b2' (Or.inr (Or.inl q))) b4') (fun r σ1 ⟨g1, g2, g3, g4⟩ => ?_)
      have g3' : zrd σ1 178 6 = pps T W vv l t bar (o + 1) := by
        rw [g3, h6, hl, est]
        have : bsum (pbk T (vvs W vv l (min vv o)) (vvs W vv l (max vv o)) t bar) = pp1 T W vv l t bar o := by unfold pp1; rw [if_neg c]
        rw [this, zwj (by omega) (by omega)]
      refine pK_pairPrice_10 hc l t ht σ0 d m (o + 1) σ1 (by omega) (by omega) (hf.tr ⟨g1, g2⟩) (KI_j hk g1 hc.1 (g2 3 (by decide) (by decide))) ?_ g3'
      rw [ln_fo g1 (by unfold oJ; omega) (by unfold oJ; omega), hl]
theorem qK_pairPrice {R : Nat} {T : List Cl} {bar : Int} {W : Nat → Ln} {vv e n : Nat} {lo : Int} {many : Nat} (hc : KC R W vv e n lo many) (t : Nat) (ht : t < 32) (σ : Zm) (hk : KI R T bar W vv e n lo many σ) : zwp (fK_pairPrice σ R (t : Int)) (fun r σ' => zfo (oJ 178) σ σ' ∧ KI R T bar W vv e n lo many σ' ∧ r = pps T W vv (ln 32 σ (198 + 3 * vv)) t bar 4 ∧ ln 32 σ' (198 + 3 * vv) = ln 32 σ (198 + 3 * vv)) := by
  unfold fK_pairPrice
  refine zwp_st (fun σ1 f1 v1 => ?_)
  have f1' : zfo (oJ 178) σ σ1 := f1.mono (fun q h => Or.inl h)
  have hk1 := KI_j hk f1' hc.1 (by rw [v1, if_neg (by omega)])
  have hl : ln 32 σ1 (198 + 3 * vv) = ln 32 σ (198 + 3 * vv) := ln_fo f1' (by unfold oJ; omega) (by unfold oJ; omega)
  refine zwp_mono (pK_pairPrice_10 hc (ln 32 σ (198 + 3 * vv)) t ht σ1 4 5000 0 σ1 (by omega) (by omega) fpo.rf hk1 hl (by rw [v1, if_pos rfl]; rfl)) (fun r σ' ⟨g1, g2, g3, g4⟩ => ⟨f1'.tr g1.1, g2, g3, g4⟩)

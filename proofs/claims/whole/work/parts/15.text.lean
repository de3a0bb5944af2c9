/-! MY OWN: what the code of a clause comes to -/
def cl (z : Int) : Int := if 1000000 < z then 1000000 else if z < -1000000 then -1000000 else z
def ar (c x y : Int) : Int := if c = 2010 then cl (x + y) else if c = 2011 then cl (x - y) else if c = 2012 then cl (x * y) else if y = 0 then 0 else cl (Int.tdiv x y)
def cm (c x y : Int) : Int := if c = 2004 then (if x < y then 1 else 0) else if c = 2005 then (if x ≤ y then 1 else 0) else if c = 2006 then (if y < x then 1 else 0) else if c = 2007 then (if y ≤ x then 1 else 0) else if c = 2008 then (if x = y then 1 else 0) else (if x = y then 0 else 1)
def bo (c a b : Int) : Int := if c = 2001 then (if a = 0 ∧ b = 0 then 0 else 1) else (if a = 0 ∨ b = 0 then 0 else 1)
def ev1 (E : Nat → Int) (c : Int) (s : List Int × List Int) : List Int × List Int :=
  if c < 1000 then (c :: s.1, s.2)
  else if c < 2000 then (E (c - 1000).toNat :: s.1, s.2)
  else if c = 2014 then (match s.1 with
    | x :: V => (-x :: V, s.2)
    | _ => ([], []))
  else if 2010 ≤ c then (match s.1 with
    | y :: x :: V => (ar c x y :: V, s.2)
    | _ => ([], []))
  else if 2004 ≤ c then (match s.1 with
    | y :: x :: V => (V, cm c x y :: s.2)
    | _ => ([], []))
  else if c = 2003 then (match s.2 with
    | b :: T => (s.1, (1 - b) :: T)
    | _ => ([], []))
  else (match s.2 with
    | b :: a :: T => (s.1, bo c a b :: T)
    | _ => ([], []))
def ev (E : Nat → Int) : List Int → List Int × List Int → List Int × List Int
  | [], s => s
  | c :: l, s => ev E l (ev1 E c s)
def wt : List Int → Nat → Nat → Nat → Nat → Prop
  | [], v, t, v', t' => v = v' ∧ t = t'
  | c :: l, v, t, v', t' => (0 ≤ c ∧ c < 1021 ∧ wt l (v + 1) t v' t') ∨ (c = 2014 ∧ 1 ≤ v ∧ wt l v t v' t') ∨ (2010 ≤ c ∧ c ≤ 2013 ∧ 2 ≤ v ∧ wt l (v - 1) t v' t') ∨ (2004 ≤ c ∧ c ≤ 2009 ∧ v = 2 ∧ wt l 0 (t + 1) v' t') ∨ (c = 2003 ∧ v = 0 ∧ 1 ≤ t ∧ wt l v t v' t') ∨ ((c = 2001 ∨ c = 2002) ∧ v = 0 ∧ 2 ≤ t ∧ wt l 0 (t - 1) v' t')
def bdv (V : List Int) : Prop := ∀ x ∈ V, -1000000 ≤ x ∧ x ≤ 1000000
def bdt (T : List Int) : Prop := ∀ b ∈ T, b = 0 ∨ b = 1
theorem cl_bd (z : Int) : -1000000 ≤ cl z ∧ cl z ≤ 1000000 := by
  unfold cl
  split
  · omega
  · split <;> omega
theorem ar_bd (c x y : Int) : -1000000 ≤ ar c x y ∧ ar c x y ≤ 1000000 := by
  have h := cl_bd
  unfold ar
  split
  · exact h _
  · split
    · exact h _
    · split
      · exact h _
      · split
        · omega
        · exact h _
theorem cm_01 (c x y : Int) : cm c x y = 0 ∨ cm c x y = 1 := by unfold cm; grind
theorem bo_01 (c x y : Int) : bo c x y = 0 ∨ bo c x y = 1 := by unfold bo; grind
/-- one mark: counts and bounds -/
theorem ev1_wt {E : Nat → Int} (hE : ∀ k, -1000000 ≤ E k ∧ E k ≤ 1000000) {c : Int} {l : List Int} {V T : List Int} {v' t' : Nat} (h : wt (c :: l) V.length T.length v' t') (hV : bdv V) (hT : bdt T) : wt l (ev1 E c (V, T)).1.length (ev1 E c (V, T)).2.length v' t' ∧ bdv (ev1 E c (V, T)).1 ∧ bdt (ev1 E c (V, T)).2 := by
  unfold wt at h
  unfold bdv bdt at *
  unfold ev1
  rcases h with ⟨h1, h2, h3⟩ | ⟨h1, h2, h3⟩ | ⟨h1, h2, h3, h4⟩ | ⟨h1, h2, h3, h4⟩ | ⟨h1, h2, h3, h4⟩ | ⟨h1, h2, h3, h4⟩
  · by_cases c1 : c < 1000
    · rw [if_pos c1]
      refine ⟨h3, ?_, hT⟩
      simp only [List.mem_cons]
      rintro x (rfl | h)
      · omega
      · exact hV x h
    · rw [if_neg c1, if_pos (by omega)]
      refine ⟨h3, ?_, hT⟩
      simp only [List.mem_cons]
      rintro x (rfl | h)
      · exact hE _
      · exact hV x h
  · rw [if_neg (by omega), if_neg (by omega), if_pos h1]
    match V, h2, h3, hV with
    | x :: V, h2, h3, hV =>
      refine ⟨h3, ?_, hT⟩
      simp only [List.mem_cons] at hV ⊢
      rintro y (rfl | h)
      · have := hV x (Or.inl rfl); omega
      · exact hV y (Or.inr h)
  · rw [if_neg (by omega), if_neg (by omega), if_neg (by omega), if_pos (by omega)]
    match V, h3, h4, hV with
    | y :: x :: V, h3, h4, hV =>
      refine ⟨h4, ?_, hT⟩
      simp only [List.mem_cons] at hV ⊢
      rintro z (rfl | h)
      · exact ar_bd _ _ _
      · exact hV z (Or.inr (Or.inr h))
  · rw [if_neg (by omega), if_neg (by omega), if_neg (by omega), if_neg (by omega), if_pos (by omega)]
    match V, h3, hV with
    | [y, x], h3, hV =>
      refine ⟨h4, ?_, ?_⟩
      · simp
      · simp only [List.mem_cons]
        rintro z (rfl | h)
        · exact cm_01 _ _ _
        · exact hT z h
  · rw [if_neg (by omega), if_neg (by omega), if_neg (by omega), if_neg (by omega), if_neg (by omega), if_pos h1]
    match T, h3, h4, hT with
    | b :: T, h3, h4, hT =>
      refine ⟨h4, hV, ?_⟩
      simp only [List.mem_cons] at hT ⊢
      rintro z (rfl | h)
      · have := hT b (Or.inl rfl); omega
      · exact hT z (Or.inr h)
  · rw [if_neg (by omega), if_neg (by omega), if_neg (by omega), if_neg (by omega), if_neg (by omega), if_neg (by omega)]
    match T, h3, h4, hT with
    | b :: a :: T, h3, h4, hT =>
      refine ⟨?_, hV, ?_⟩
      · show wt l V.length (T.length + 1) v' t'
        rw [h2]
        exact h4
      · simp only [List.mem_cons] at hT ⊢
        rintro z (rfl | h)
        · exact bo_01 _ _ _
        · exact hT z (Or.inr (Or.inr h))
theorem ev_wt {E : Nat → Int} (hE : ∀ k, -1000000 ≤ E k ∧ E k ≤ 1000000) {v' t' : Nat} : ∀ (l : List Int) (V T : List Int), wt l V.length T.length v' t' → bdv V → bdt T → (ev E l (V, T)).1.length = v' ∧ (ev E l (V, T)).2.length = t' ∧ bdv (ev E l (V, T)).1 ∧ bdt (ev E l (V, T)).2
  | [], V, T, h, hV, hT => ⟨h.1, h.2, hV, hT⟩
  | c :: l, V, T, h, hV, hT => by
    obtain ⟨h1, h2, h3⟩ := ev1_wt hE h hV hT
    exact ev_wt hE l _ _ h1 h2 h3
theorem zlc_le {a b : Int} (h1 : -9000000000000 ≤ a ∧ a ≤ 9000000000000) (h2 : -9000000000000 ≤ b ∧ b ≤ 9000000000000) : (zlc a b ≤ 0 ↔ a ≤ b) ∧ (0 ≤ zlc a b ↔ b ≤ a) ∧ (zlc a b < 0 ↔ a < b) ∧ (0 < zlc a b ↔ b < a) ∧ (zlc a b = 0 ↔ a = b) := by
  unfold zlc
  rw [zx_id (a := a) (by omega) (by omega), zx_id (a := b) (by omega) (by omega)]
  split
  · omega
  · split <;> omega
theorem mul_bd {x y : Int} (hx : -1000000 ≤ x ∧ x ≤ 1000000) (hy : -1000000 ≤ y ∧ y ≤ 1000000) : -1000000000000 ≤ x * y ∧ x * y ≤ 1000000000000 := by
  have h1 : (x * y).natAbs ≤ 1000000 * 1000000 := by
    rw [Int.natAbs_mul]
    exact Nat.mul_le_mul (by omega) (by omega)
  omega
theorem tdiv_bd {x y : Int} (hx : -1000000 ≤ x ∧ x ≤ 1000000) : -1000000 ≤ Int.tdiv x y ∧ Int.tdiv x y ≤ 1000000 := by
  have h1 : (Int.tdiv x y).natAbs ≤ 1000000 := by
    rw [Int.natAbs_tdiv]
    exact Nat.le_trans (Nat.div_le_self _ _) (by omega)
  omega
theorem pJ_combine_ar (σ : Zm) (c x y : Int) (hc : 2010 ≤ c ∧ c ≤ 2013) (hx : -1000000 ≤ x ∧ x ≤ 1000000) (hy : -1000000 ≤ y ∧ y ≤ 1000000) : ∃ z, fJ_combine σ (c - 2000) x y = some (z, σ) ∧ -1000000000000 ≤ z ∧ z ≤ 1000000000000 ∧ cl z = ar c x y := by
  have hm := mul_bd hx hy
  have hd := tdiv_bd (y := y) hx
  unfold fJ_combine ar
  rw [if_neg (by omega), if_neg (by omega), if_neg (by omega), if_neg (by omega), if_neg (by omega), if_neg (by omega), if_neg (by omega), if_neg (by omega)]
  by_cases c1 : c = 2010
  · rw [if_pos (by omega), if_pos c1]
    exact ⟨_, rfl, by omega, by omega, rfl⟩
  · rw [if_neg (by omega), if_neg c1]
    by_cases c2 : c = 2011
    · rw [if_pos (by omega), if_pos c2]
      exact ⟨_, rfl, by omega, by omega, rfl⟩
    · rw [if_neg (by omega), if_neg c2]
      by_cases c3 : c = 2012
      · rw [if_pos (by omega), if_pos c3]
        exact ⟨_, rfl, by omega, by omega, rfl⟩
      · rw [if_neg (by omega), if_neg c3]
        have hz := (zlc_le (a := y) (b := 0) (by omega) (by omega)).2.2.2.2
        by_cases c4 : y = 0
        · rw [if_neg (by simpa using hz.mpr c4), if_pos c4]
          exact ⟨_, rfl, by omega, by omega, rfl⟩
        · rw [if_pos (fun q => c4 (hz.mp q)), if_neg c4]
          unfold zdv
          rw [if_neg c4]
          exact ⟨_, rfl, by omega, by omega, rfl⟩
theorem pJ_combine_cm (σ : Zm) (c x y : Int) (hc : 2004 ≤ c ∧ c ≤ 2009) (hx : -1000000 ≤ x ∧ x ≤ 1000000) (hy : -1000000 ≤ y ∧ y ≤ 1000000) : fJ_combine σ (c - 2000) x y = some (cm c x y, σ) := by
  obtain ⟨h1, h2, h3, h4, h5⟩ := zlc_le (a := x) (b := y) (by omega) (by omega)
  unfold fJ_combine cm
  have hcc : c = 2004 ∨ c = 2005 ∨ c = 2006 ∨ c = 2007 ∨ c = 2008 ∨ c = 2009 := by omega
  rcases hcc with rfl | rfl | rfl | rfl | rfl | rfl <;> simp only [Int.reduceSub, Int.reduceEq, if_true, if_false, reduceIte] <;> grind
theorem pJ_combine_bo (σ : Zm) (c x y : Int) (hc : c = 2001 ∨ c = 2002) (hx : x = 0 ∨ x = 1) (hy : y = 0 ∨ y = 1) : fJ_combine σ (c - 2000) x y = some (bo c x y, σ) := by
  unfold fJ_combine bo
  rcases hc with rfl | rfl <;> rcases hx with rfl | rfl <;> rcases hy with rfl | rfl <;> rfl

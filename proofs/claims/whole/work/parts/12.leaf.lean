/-! MY OWN: what the smallest functions answer -/
theorem zw_b2 {c : Prop} {dc : Decidable c} : zw (if c then 1 else 0) = if c then 1 else 0 := by split <;> decide
theorem zb_b2 {c : Prop} {dc : Decidable c} : zb (if c then 1 else 0) = if c then 1 else 0 := by split <;> decide
theorem ite10_0 {c : Prop} {dc : Decidable c} : ((if c then (1 : Int) else 0) = 0) ↔ ¬ c := by split <;> simp_all
theorem pX_within (σ : Zm) (x a b : Int) : fX_within σ x a b = some (if a ≤ x ∧ x ≤ b then 1 else 0, σ) := by
  unfold fX_within
  by_cases h1 : x < a
  · rw [if_pos h1, if_neg (by omega)]
  · rw [if_neg h1]
    by_cases h2 : b < x
    · rw [if_pos h2, if_neg (by omega)]
    · rw [if_neg h2, if_pos (by omega)]
theorem pX_isPiece (σ : Zm) (x : Int) : fX_isPiece σ x = some (if 0 ≤ x ∧ x ≤ 3 then 1 else 0, σ) := by
  unfold fX_isPiece
  rw [pX_within, zbi_some, zw_b2, zb_b2]
theorem pX_isVoice (σ : Zm) (x : Int) : fX_isVoice σ x = some (if 0 ≤ x ∧ x ≤ 3 then 1 else 0, σ) := by
  unfold fX_isVoice
  rw [pX_within, zbi_some, zw_b2, zb_b2]
theorem pX_isPitch (σ : Zm) (x : Int) : fX_isPitch σ x = some (if 0 ≤ x ∧ x ≤ 60 then 1 else 0, σ) := by
  unfold fX_isPitch
  rw [pX_within, zbi_some, zw_b2, zb_b2]
theorem pX_isSubject (σ : Zm) (x : Int) : fX_isSubject σ x = some (if 0 ≤ x ∧ x ≤ 5 then 1 else 0, σ) := by
  unfold fX_isSubject
  rw [pX_within, zbi_some, zw_b2, zb_b2]
theorem pX_isSet (σ : Zm) (x : Int) : fX_isSet σ x = some (if 0 ≤ x ∧ x ≤ 15 then 1 else 0, σ) := by
  unfold fX_isSet
  rw [pX_within, zbi_some, zw_b2, zb_b2]
theorem pX_isNote (σ : Zm) (x l m b : Int) : fX_isNote σ x l m b = some (if (1 ≤ l ∧ l ≤ m) ∧ (0 ≤ x ∧ x ≤ zw (b - l)) then 1 else 0, σ) := by
  unfold fX_isNote
  rw [pX_within, zbi_some, zw_b2]
  by_cases h : 1 ≤ l ∧ l ≤ m
  · rw [if_pos h, if_neg (by decide), pX_within, zbi_some, zw_b2]
    by_cases h2 : 0 ≤ x ∧ x ≤ zw (b - l)
    · rw [if_pos h2, if_neg (by decide), if_pos ⟨h, h2⟩]
    · rw [if_neg h2, if_pos rfl, if_neg (fun z => h2 z.2)]
  · rw [if_neg h, if_pos rfl, if_neg (fun z => h z.1)]
def pc12 (x : Int) : Int := max (-12) (min 12 x)
theorem pX_boundedStep (σ : Zm) (x : Int) : fX_boundedStep σ x = some (pc12 x, σ) := rfl

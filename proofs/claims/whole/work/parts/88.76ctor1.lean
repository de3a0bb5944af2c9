theorem zir_3 {p k : Nat} (h : zSH p = 3) (hr : zisr p k) : k = 0 ∨ k = 1 := by
  unfold zisr at hr
  rw [h] at hr
  have h2 : ∀ k, k < zNF 3 → (zTy 3 k).isReference = true → k = 0 ∨ k = 1 := by decide +kernel
  rcases hr with hr | hr
  · exact h2 k hr.2.1 hr.2.2
  · omega
theorem zir_2 {p k : Nat} (h : zSH p = 2) (hr : zisr p k) : k = 0 ∨ k = 1 ∨ k = 2 := by
  unfold zisr at hr
  rw [h] at hr
  have h2 : ∀ k, k < zNF 2 → (zTy 2 k).isReference = true → k = 0 ∨ k = 1 ∨ k = 2 := by decide +kernel
  rcases hr with hr | hr
  · exact h2 k hr.2.1 hr.2.2
  · omega
theorem zir_6 {p k : Nat} (h : zSH p = 6) (hr : zisr p k) : k = 0 ∨ k = 1 ∨ k = 2 ∨ k = 3 ∨ k = 4 := by
  unfold zisr at hr
  rw [h] at hr
  have h2 : ∀ k, k < zNF 6 → (zTy 6 k).isReference = true → k = 0 ∨ k = 1 ∨ k = 2 ∨ k = 3 ∨ k = 4 := by decide +kernel
  rcases hr with hr | hr
  · exact h2 k hr.2.1 hr.2.2
  · omega
theorem zir_8 {p k : Nat} (h : zSH p = 8) (hr : zisr p k) : k = 0 ∨ k = 1 := by
  unfold zisr at hr
  rw [h] at hr
  have h2 : ∀ k, k < zNF 8 → (zTy 8 k).isReference = true → k = 0 ∨ k = 1 := by decide +kernel
  rcases hr with hr | hr
  · exact h2 k hr.2.1 hr.2.2
  · omega
theorem zir_7 {p k : Nat} (h : zSH p = 7) (hr : zisr p k) : k = 0 ∨ k = 1 ∨ k = 2 ∨ k = 3 ∨ k = 4 ∨ k = 5 ∨ k = 6 := by
  unfold zisr at hr
  rw [h] at hr
  have h2 : ∀ k, k < zNF 7 → (zTy 7 k).isReference = true → k = 0 ∨ k = 1 ∨ k = 2 ∨ k = 3 ∨ k = 4 ∨ k = 5 ∨ k = 6 := by decide +kernel
  rcases hr with hr | hr
  · exact h2 k hr.2.1 hr.2.2
  · omega
theorem zir_5 {p k : Nat} (h : zSH p = 5) (hr : zisr p k) : k = 0 ∨ k = 1 := by
  unfold zisr at hr
  rw [h] at hr
  have h2 : ∀ k, k < zNF 5 → (zTy 5 k).isReference = true → k = 0 ∨ k = 1 := by decide +kernel
  rcases hr with hr | hr
  · exact h2 k hr.2.1 hr.2.2
  · omega
theorem zir_0 {p k : Nat} (h : zSH p = 0) (hr : zisr p k) : k = 0 ∨ k = 1 ∨ k = 2 ∨ k = 3 := by
  unfold zisr at hr
  rw [h] at hr
  have h2 : ∀ k, k < zNF 0 → (zTy 0 k).isReference = true → k = 0 ∨ k = 1 ∨ k = 2 ∨ k = 3 := by decide +kernel
  rcases hr with hr | hr
  · exact h2 k hr.2.1 hr.2.2
  · omega
theorem zir_1 {p k : Nat} (h : zSH p = 1) (hr : zisr p k) : k = 0 ∨ k = 1 ∨ k = 2 ∨ k = 3 ∨ k = 4 ∨ k = 5 ∨ k = 6 ∨ k = 7 := by
  unfold zisr at hr
  rw [h] at hr
  have h2 : ∀ k, k < zNF 1 → (zTy 1 k).isReference = true → k = 0 ∨ k = 1 ∨ k = 2 ∨ k = 3 ∨ k = 4 ∨ k = 5 ∨ k = 6 ∨ k = 7 := by decide +kernel
  rcases hr with hr | hr
  · exact h2 k hr.2.1 hr.2.2
  · omega
theorem zir_4 {p k : Nat} (h : zSH p = 4) (hr : zisr p k) : k = 0 ∨ k = 1 ∨ k = 2 ∨ k = 3 ∨ k = 4 := by
  unfold zisr at hr
  rw [h] at hr
  have h2 : ∀ k, k < zNF 4 → (zTy 4 k).isReference = true → k = 0 ∨ k = 1 ∨ k = 2 ∨ k = 3 ∨ k = 4 := by decide +kernel
  rcases hr with hr | hr
  · exact h2 k hr.2.1 hr.2.2
  · omega
theorem zir_9 {p k : Nat} (h : zSH p = 9) (hr : zisr p k) : k = 0 ∨ k = 1 ∨ k = 2 ∨ k = 3 ∨ k = 4 ∨ k = 5 ∨ k = 6 ∨ k = 7 ∨ k = 8 ∨ k = 9 ∨ k = 10 := by
  unfold zisr at hr
  rw [h] at hr
  have h2 : ∀ k, k < zNF 9 → (zTy 9 k).isReference = true → k = 0 ∨ k = 1 ∨ k = 2 ∨ k = 3 ∨ k = 4 ∨ k = 5 ∨ k = 6 ∨ k = 7 ∨ k = 8 ∨ k = 9 ∨ k = 10 := by decide +kernel
  rcases hr with hr | hr
  · exact h2 k hr.2.1 hr.2.2
  · omega
theorem zir_10 {p k : Nat} (h : zSH p = 10) (hr : zisr p k) : k = 0 ∨ k = 1 ∨ k = 2 ∨ k = 3 ∨ k = 16 ∨ k = 21 ∨ k = 22 ∨ k = 23 ∨ k = 24 ∨ k = 25 ∨ k = 29 ∨ k = 30 ∨ k = 35 ∨ k = 36 ∨ k = 37 ∨ k = 39 ∨ k = 40 ∨ k = 41 ∨ k = 42 ∨ k = 43 := by
  unfold zisr at hr
  rw [h] at hr
  have h2 : ∀ k, k < zNF 10 → (zTy 10 k).isReference = true → ([0, 1, 2, 3, 16, 21, 22, 23, 24, 25, 29, 30, 35, 36, 37, 39, 40, 41, 42, 43] : List Nat).contains k = true := by decide +kernel
  rcases hr with hr | hr
  · have h3 := h2 k hr.2.1 hr.2.2
    simpa using h3
  · omega
theorem zir_no {p k : Nat} (h : zSH p = 20 ∨ zSH p = 21 ∨ zSH p = 22) (hr : zisr p k) : False := by
  unfold zisr at hr
  rcases hr with hr | hr <;> omega
theorem zir_arr {p k N : Nat} (h : 23 ≤ zSH p) (hN : zLN p = N) (hr : zisr p k) : k < N := by
  unfold zisr at hr
  rcases hr with hr | hr <;> omega
def zρS1 (ρ : Zp) (o i : Nat) : Zp := fun p k => if p = o + 1 then (if k < i then true else false) else if p = o + 2 then false else if o ≤ p ∧ p < o + 8 + 3 * i then true else ρ p k
def zρS2 (ρ : Zp) (o i : Nat) : Zp := fun p k => if p = o + 2 then (if k < i then true else false) else if o ≤ p ∧ p < o + 56 + 3 * i then true else ρ p k
def zρK (ρ : Zp) (i : Nat) : Zp := fun p k => if p = 182 then (if k < i then true else false) else if 177 ≤ p ∧ p < 198 + 3 * i then true else ρ p k
def zρX1 (ρ : Zp) (i : Nat) : Zp := fun p k => if p = 149 then (if k < i then true else false) else if p = 224 then false else if p < 225 + 6 * i then true else ρ p k
def zρX2 (ρ : Zp) (i : Nat) : Zp := fun p k => if p = 224 then (if k < i then true else false) else if p < 261 + 3 * i then true else ρ p k
theorem eX2_init_0 : zD cX2_init 0 (.aload_n 0) 1 1 := ⟨by decide +kernel, rfl⟩
theorem eX2_init_1 : zD cX2_init 1 (.invokespecial 3) 3 4 := ⟨by decide +kernel, rfl⟩
theorem eX2_init_4 : zD cX2_init 4 (.aload_n 0) 1 5 := ⟨by decide +kernel, rfl⟩
theorem eX2_init_5 : zD cX2_init 5 (.bipush 21) 2 7 := ⟨by decide +kernel, rfl⟩
theorem eX2_init_7 : zD cX2_init 7 (.newarray .int) 2 9 := ⟨by decide +kernel, rfl⟩
theorem eX2_init_9 : zD cX2_init 9 (.putfield 9) 3 12 := ⟨by decide +kernel, rfl⟩
theorem eX2_init_12 : zD cX2_init 12 (.aload_n 0) 1 13 := ⟨by decide +kernel, rfl⟩
theorem eX2_init_13 : zD cX2_init 13 (.sipush 300) 3 16 := ⟨by decide +kernel, rfl⟩
theorem eX2_init_16 : zD cX2_init 16 (.newarray .int) 2 18 := ⟨by decide +kernel, rfl⟩
theorem eX2_init_18 : zD cX2_init 18 (.putfield 15) 3 21 := ⟨by decide +kernel, rfl⟩
theorem eX2_init_21 : zD cX2_init 21 (.aload_n 0) 1 22 := ⟨by decide +kernel, rfl⟩
theorem eX2_init_22 : zD cX2_init 22 (.iconst 5) 1 23 := ⟨by decide +kernel, rfl⟩
theorem eX2_init_23 : zD cX2_init 23 (.newarray .int) 2 25 := ⟨by decide +kernel, rfl⟩
theorem eX2_init_25 : zD cX2_init 25 (.putfield 18) 3 28 := ⟨by decide +kernel, rfl⟩
theorem eX2_init_28 : zD cX2_init 28 (.aload_n 0) 1 29 := ⟨by decide +kernel, rfl⟩
theorem eX2_init_29 : zD cX2_init 29 (.iconst 4) 1 30 := ⟨by decide +kernel, rfl⟩
theorem eX2_init_30 : zD cX2_init 30 (.putfield 21) 3 33 := ⟨by decide +kernel, rfl⟩
theorem eX2_init_33 : zD cX2_init 33 (.aload_n 0) 1 34 := ⟨by decide +kernel, rfl⟩
theorem eX2_init_34 : zD cX2_init 34 (.iconst (-1)) 1 35 := ⟨by decide +kernel, rfl⟩
theorem eX2_init_35 : zD cX2_init 35 (.putfield 25) 3 38 := ⟨by decide +kernel, rfl⟩
theorem eX2_init_38 : zD cX2_init 38 (.aload_n 0) 1 39 := ⟨by decide +kernel, rfl⟩
theorem eX2_init_39 : zD cX2_init 39 (.iconst 0) 1 40 := ⟨by decide +kernel, rfl⟩
theorem eX2_init_40 : zD cX2_init 40 (.putfield 28) 3 43 := ⟨by decide +kernel, rfl⟩
theorem eX2_init_43 : zD cX2_init 43 (.aload_n 0) 1 44 := ⟨by decide +kernel, rfl⟩
theorem eX2_init_44 : zD cX2_init 44 (.iconst 0) 1 45 := ⟨by decide +kernel, rfl⟩
theorem eX2_init_45 : zD cX2_init 45 (.putfield 31) 3 48 := ⟨by decide +kernel, rfl⟩
theorem eX2_init_48 : zD cX2_init 48 (.aload_n 0) 1 49 := ⟨by decide +kernel, rfl⟩
theorem eX2_init_49 : zD cX2_init 49 (.iconst 0) 1 50 := ⟨by decide +kernel, rfl⟩
theorem eX2_init_50 : zD cX2_init 50 (.putfield 34) 3 53 := ⟨by decide +kernel, rfl⟩
theorem eX2_init_53 : zD cX2_init 53 (.aload_n 0) 1 54 := ⟨by decide +kernel, rfl⟩
theorem eX2_init_54 : zD cX2_init 54 (.iconst (-1)) 1 55 := ⟨by decide +kernel, rfl⟩
theorem eX2_init_55 : zD cX2_init 55 (.putfield 37) 3 58 := ⟨by decide +kernel, rfl⟩
theorem eX2_init_58 : zD cX2_init 58 .return_ 1 59 := ⟨by decide +kernel, rfl⟩
theorem eX6_init_0 : zD cX6_init 0 (.aload_n 0) 1 1 := ⟨by decide +kernel, rfl⟩
theorem eX6_init_1 : zD cX6_init 1 (.invokespecial 3) 3 4 := ⟨by decide +kernel, rfl⟩
theorem eX6_init_4 : zD cX6_init 4 (.aload_n 0) 1 5 := ⟨by decide +kernel, rfl⟩
theorem eX6_init_5 : zD cX6_init 5 (.sipush 300) 3 8 := ⟨by decide +kernel, rfl⟩
theorem eX6_init_8 : zD cX6_init 8 (.newarray .int) 2 10 := ⟨by decide +kernel, rfl⟩
theorem eX6_init_10 : zD cX6_init 10 (.putfield 9) 3 13 := ⟨by decide +kernel, rfl⟩
theorem eX6_init_13 : zD cX6_init 13 (.aload_n 0) 1 14 := ⟨by decide +kernel, rfl⟩
theorem eX6_init_14 : zD cX6_init 14 (.bipush 10) 2 16 := ⟨by decide +kernel, rfl⟩
theorem eX6_init_16 : zD cX6_init 16 (.newarray .int) 2 18 := ⟨by decide +kernel, rfl⟩
theorem eX6_init_18 : zD cX6_init 18 (.putfield 15) 3 21 := ⟨by decide +kernel, rfl⟩
theorem eX6_init_21 : zD cX6_init 21 (.aload_n 0) 1 22 := ⟨by decide +kernel, rfl⟩
theorem eX6_init_22 : zD cX6_init 22 (.bipush 10) 2 24 := ⟨by decide +kernel, rfl⟩
theorem eX6_init_24 : zD cX6_init 24 (.newarray .int) 2 26 := ⟨by decide +kernel, rfl⟩
theorem eX6_init_26 : zD cX6_init 26 (.putfield 18) 3 29 := ⟨by decide +kernel, rfl⟩
theorem eX6_init_29 : zD cX6_init 29 (.aload_n 0) 1 30 := ⟨by decide +kernel, rfl⟩
theorem eX6_init_30 : zD cX6_init 30 (.bipush 10) 2 32 := ⟨by decide +kernel, rfl⟩
theorem eX6_init_32 : zD cX6_init 32 (.newarray .int) 2 34 := ⟨by decide +kernel, rfl⟩
theorem eX6_init_34 : zD cX6_init 34 (.putfield 21) 3 37 := ⟨by decide +kernel, rfl⟩
theorem eX6_init_37 : zD cX6_init 37 (.aload_n 0) 1 38 := ⟨by decide +kernel, rfl⟩
theorem eX6_init_38 : zD cX6_init 38 (.bipush 10) 2 40 := ⟨by decide +kernel, rfl⟩
theorem eX6_init_40 : zD cX6_init 40 (.newarray .int) 2 42 := ⟨by decide +kernel, rfl⟩
theorem eX6_init_42 : zD cX6_init 42 (.putfield 24) 3 45 := ⟨by decide +kernel, rfl⟩
theorem eX6_init_45 : zD cX6_init 45 (.aload_n 0) 1 46 := ⟨by decide +kernel, rfl⟩
theorem eX6_init_46 : zD cX6_init 46 (.iconst 0) 1 47 := ⟨by decide +kernel, rfl⟩
theorem eX6_init_47 : zD cX6_init 47 (.putfield 27) 3 50 := ⟨by decide +kernel, rfl⟩
theorem eX6_init_50 : zD cX6_init 50 (.aload_n 0) 1 51 := ⟨by decide +kernel, rfl⟩
theorem eX6_init_51 : zD cX6_init 51 (.iconst 0) 1 52 := ⟨by decide +kernel, rfl⟩
theorem eX6_init_52 : zD cX6_init 52 (.putfield 31) 3 55 := ⟨by decide +kernel, rfl⟩
theorem eX6_init_55 : zD cX6_init 55 .return_ 1 56 := ⟨by decide +kernel, rfl⟩
theorem eX8_init_0 : zD cX8_init 0 (.aload_n 0) 1 1 := ⟨by decide +kernel, rfl⟩
theorem eX8_init_1 : zD cX8_init 1 (.invokespecial 3) 3 4 := ⟨by decide +kernel, rfl⟩
theorem eX8_init_4 : zD cX8_init 4 (.aload_n 0) 1 5 := ⟨by decide +kernel, rfl⟩
theorem eX8_init_5 : zD cX8_init 5 (.bipush 25) 2 7 := ⟨by decide +kernel, rfl⟩
theorem eX8_init_7 : zD cX8_init 7 (.newarray .int) 2 9 := ⟨by decide +kernel, rfl⟩
theorem eX8_init_9 : zD cX8_init 9 (.putfield 9) 3 12 := ⟨by decide +kernel, rfl⟩
theorem eX8_init_12 : zD cX8_init 12 (.aload_n 0) 1 13 := ⟨by decide +kernel, rfl⟩
theorem eX8_init_13 : zD cX8_init 13 (.bipush 25) 2 15 := ⟨by decide +kernel, rfl⟩
theorem eX8_init_15 : zD cX8_init 15 (.newarray .int) 2 17 := ⟨by decide +kernel, rfl⟩
theorem eX8_init_17 : zD cX8_init 17 (.putfield 15) 3 20 := ⟨by decide +kernel, rfl⟩
theorem eX8_init_20 : zD cX8_init 20 (.aload_n 0) 1 21 := ⟨by decide +kernel, rfl⟩
theorem eX8_init_21 : zD cX8_init 21 (.iconst 0) 1 22 := ⟨by decide +kernel, rfl⟩
theorem eX8_init_22 : zD cX8_init 22 (.putfield 18) 3 25 := ⟨by decide +kernel, rfl⟩
theorem eX8_init_25 : zD cX8_init 25 (.aload_n 0) 1 26 := ⟨by decide +kernel, rfl⟩
theorem eX8_init_26 : zD cX8_init 26 (.iconst 0) 1 27 := ⟨by decide +kernel, rfl⟩
theorem eX8_init_27 : zD cX8_init 27 (.putfield 22) 3 30 := ⟨by decide +kernel, rfl⟩
theorem eX8_init_30 : zD cX8_init 30 .return_ 1 31 := ⟨by decide +kernel, rfl⟩
theorem eX5_init_0 : zD cX5_init 0 (.aload_n 0) 1 1 := ⟨by decide +kernel, rfl⟩
theorem eX5_init_1 : zD cX5_init 1 (.invokespecial 3) 3 4 := ⟨by decide +kernel, rfl⟩
theorem eX5_init_4 : zD cX5_init 4 (.aload_n 0) 1 5 := ⟨by decide +kernel, rfl⟩
theorem eX5_init_5 : zD cX5_init 5 (.sipush 300) 3 8 := ⟨by decide +kernel, rfl⟩
theorem eX5_init_8 : zD cX5_init 8 (.newarray .int) 2 10 := ⟨by decide +kernel, rfl⟩
theorem eX5_init_10 : zD cX5_init 10 (.putfield 9) 3 13 := ⟨by decide +kernel, rfl⟩
theorem eX5_init_13 : zD cX5_init 13 (.aload_n 0) 1 14 := ⟨by decide +kernel, rfl⟩
theorem eX5_init_14 : zD cX5_init 14 (.sipush 300) 3 17 := ⟨by decide +kernel, rfl⟩
theorem eX5_init_17 : zD cX5_init 17 (.newarray .int) 2 19 := ⟨by decide +kernel, rfl⟩
theorem eX5_init_19 : zD cX5_init 19 (.putfield 15) 3 22 := ⟨by decide +kernel, rfl⟩
theorem eX5_init_22 : zD cX5_init 22 (.aload_n 0) 1 23 := ⟨by decide +kernel, rfl⟩
theorem eX5_init_23 : zD cX5_init 23 (.iconst 0) 1 24 := ⟨by decide +kernel, rfl⟩
theorem eX5_init_24 : zD cX5_init 24 (.putfield 18) 3 27 := ⟨by decide +kernel, rfl⟩
theorem eX5_init_27 : zD cX5_init 27 (.aload_n 0) 1 28 := ⟨by decide +kernel, rfl⟩
theorem eX5_init_28 : zD cX5_init 28 (.iconst 0) 1 29 := ⟨by decide +kernel, rfl⟩
theorem eX5_init_29 : zD cX5_init 29 (.putfield 22) 3 32 := ⟨by decide +kernel, rfl⟩
theorem eX5_init_32 : zD cX5_init 32 (.aload_n 0) 1 33 := ⟨by decide +kernel, rfl⟩
theorem eX5_init_33 : zD cX5_init 33 (.iconst (-1)) 1 34 := ⟨by decide +kernel, rfl⟩
theorem eX5_init_34 : zD cX5_init 34 (.putfield 25) 3 37 := ⟨by decide +kernel, rfl⟩
theorem eX5_init_37 : zD cX5_init 37 (.aload_n 0) 1 38 := ⟨by decide +kernel, rfl⟩
theorem eX5_init_38 : zD cX5_init 38 (.iconst 0) 1 39 := ⟨by decide +kernel, rfl⟩
theorem eX5_init_39 : zD cX5_init 39 (.putfield 28) 3 42 := ⟨by decide +kernel, rfl⟩
theorem eX5_init_42 : zD cX5_init 42 (.aload_n 0) 1 43 := ⟨by decide +kernel, rfl⟩
theorem eX5_init_43 : zD cX5_init 43 (.iconst 0) 1 44 := ⟨by decide +kernel, rfl⟩
theorem eX5_init_44 : zD cX5_init 44 (.putfield 31) 3 47 := ⟨by decide +kernel, rfl⟩
theorem eX5_init_47 : zD cX5_init 47 (.aload_n 0) 1 48 := ⟨by decide +kernel, rfl⟩
theorem eX5_init_48 : zD cX5_init 48 (.bipush 21) 2 50 := ⟨by decide +kernel, rfl⟩
theorem eX5_init_50 : zD cX5_init 50 (.putfield 34) 3 53 := ⟨by decide +kernel, rfl⟩
theorem eX5_init_53 : zD cX5_init 53 (.aload_n 0) 1 54 := ⟨by decide +kernel, rfl⟩
theorem eX5_init_54 : zD cX5_init 54 (.iconst 0) 1 55 := ⟨by decide +kernel, rfl⟩
theorem eX5_init_55 : zD cX5_init 55 (.putfield 37) 3 58 := ⟨by decide +kernel, rfl⟩
theorem eX5_init_58 : zD cX5_init 58 (.aload_n 0) 1 59 := ⟨by decide +kernel, rfl⟩
theorem eX5_init_59 : zD cX5_init 59 (.iconst 0) 1 60 := ⟨by decide +kernel, rfl⟩
theorem eX5_init_60 : zD cX5_init 60 (.putfield 40) 3 63 := ⟨by decide +kernel, rfl⟩
theorem eX5_init_63 : zD cX5_init 63 (.aload_n 0) 1 64 := ⟨by decide +kernel, rfl⟩
theorem eX5_init_64 : zD cX5_init 64 (.iconst 0) 1 65 := ⟨by decide +kernel, rfl⟩
theorem eX5_init_65 : zD cX5_init 65 (.putfield 43) 3 68 := ⟨by decide +kernel, rfl⟩
theorem eX5_init_68 : zD cX5_init 68 (.aload_n 0) 1 69 := ⟨by decide +kernel, rfl⟩
theorem eX5_init_69 : zD cX5_init 69 (.iconst 0) 1 70 := ⟨by decide +kernel, rfl⟩
theorem eX5_init_70 : zD cX5_init 70 (.putfield 46) 3 73 := ⟨by decide +kernel, rfl⟩
theorem eX5_init_73 : zD cX5_init 73 (.aload_n 0) 1 74 := ⟨by decide +kernel, rfl⟩
theorem eX5_init_74 : zD cX5_init 74 (.iconst 0) 1 75 := ⟨by decide +kernel, rfl⟩
theorem eX5_init_75 : zD cX5_init 75 (.putfield 50) 3 78 := ⟨by decide +kernel, rfl⟩
theorem eX5_init_78 : zD cX5_init 78 (.aload_n 0) 1 79 := ⟨by decide +kernel, rfl⟩
theorem eX5_init_79 : zD cX5_init 79 (.iconst 0) 1 80 := ⟨by decide +kernel, rfl⟩
theorem eX5_init_80 : zD cX5_init 80 (.putfield 53) 3 83 := ⟨by decide +kernel, rfl⟩
theorem eX5_init_83 : zD cX5_init 83 (.aload_n 0) 1 84 := ⟨by decide +kernel, rfl⟩
theorem eX5_init_84 : zD cX5_init 84 (.iconst 0) 1 85 := ⟨by decide +kernel, rfl⟩
theorem eX5_init_85 : zD cX5_init 85 (.putfield 56) 3 88 := ⟨by decide +kernel, rfl⟩
theorem eX5_init_88 : zD cX5_init 88 (.aload_n 0) 1 89 := ⟨by decide +kernel, rfl⟩
theorem eX5_init_89 : zD cX5_init 89 (.iconst 0) 1 90 := ⟨by decide +kernel, rfl⟩
theorem eX5_init_90 : zD cX5_init 90 (.putfield 59) 3 93 := ⟨by decide +kernel, rfl⟩
theorem eX5_init_93 : zD cX5_init 93 .return_ 1 94 := ⟨by decide +kernel, rfl⟩
theorem eX3_init_0 : zD cX3_init 0 (.aload_n 0) 1 1 := ⟨by decide +kernel, rfl⟩
theorem eX3_init_1 : zD cX3_init 1 (.invokespecial 3) 3 4 := ⟨by decide +kernel, rfl⟩
theorem eX3_init_4 : zD cX3_init 4 (.aload_n 0) 1 5 := ⟨by decide +kernel, rfl⟩
theorem eX3_init_5 : zD cX3_init 5 (.iconst 0) 1 6 := ⟨by decide +kernel, rfl⟩
theorem eX3_init_6 : zD cX3_init 6 (.iload_n 1) 1 7 := ⟨by decide +kernel, rfl⟩
theorem eX3_init_7 : zD cX3_init 7 (.invokestatic 9) 3 10 := ⟨by decide +kernel, rfl⟩
theorem eX3_init_10 : zD cX3_init 10 (.newarray .int) 2 12 := ⟨by decide +kernel, rfl⟩
theorem eX3_init_12 : zD cX3_init 12 (.putfield 15) 3 15 := ⟨by decide +kernel, rfl⟩
theorem eX3_init_15 : zD cX3_init 15 (.aload_n 0) 1 16 := ⟨by decide +kernel, rfl⟩
theorem eX3_init_16 : zD cX3_init 16 (.iconst 0) 1 17 := ⟨by decide +kernel, rfl⟩
theorem eX3_init_17 : zD cX3_init 17 (.iload_n 1) 1 18 := ⟨by decide +kernel, rfl⟩
theorem eX3_init_18 : zD cX3_init 18 (.invokestatic 9) 3 21 := ⟨by decide +kernel, rfl⟩
theorem eX3_init_21 : zD cX3_init 21 (.newarray .int) 2 23 := ⟨by decide +kernel, rfl⟩
theorem eX3_init_23 : zD cX3_init 23 (.putfield 21) 3 26 := ⟨by decide +kernel, rfl⟩
theorem eX3_init_26 : zD cX3_init 26 .return_ 1 27 := ⟨by decide +kernel, rfl⟩
theorem lo_X2_3 : Cond.methodLink RX2 3 objectInit ∈ ztb := by decide +kernel
theorem zw_oinit : Cond.instanceMethod objectInit ∈ ztb ∧ Cond.code objectInit ⟨#[0xb1]⟩ 1 none ∈ ztb := by decide +kernel
theorem ca_20 : Cond.arrayClass .int ∈ ztb := by decide +kernel
theorem fd_X2_9 : zFd RX2 9 2 0 (.array .int) := by unfold zFd; decide +kernel
theorem fd_X2_15 : zFd RX2 15 2 1 (.array .int) := by unfold zFd; decide +kernel
theorem fd_X2_18 : zFd RX2 18 2 2 (.array .int) := by unfold zFd; decide +kernel
theorem zsz_2 {o : Nat} (h : zin 294 o 2) : o + 4 ≤ 294 := by
  have h2 : ∀ o, o < 294 → zSH o = 2 → o + 4 ≤ 294 := by decide +kernel
  exact h2 o h.2 h.1
theorem lo_X6_3 : Cond.methodLink RX6 3 objectInit ∈ ztb := by decide +kernel
theorem fd_X6_9 : zFd RX6 9 6 0 (.array .int) := by unfold zFd; decide +kernel
theorem fd_X6_15 : zFd RX6 15 6 1 (.array .int) := by unfold zFd; decide +kernel
theorem fd_X6_18 : zFd RX6 18 6 2 (.array .int) := by unfold zFd; decide +kernel
theorem fd_X6_21 : zFd RX6 21 6 3 (.array .int) := by unfold zFd; decide +kernel
theorem fd_X6_24 : zFd RX6 24 6 4 (.array .int) := by unfold zFd; decide +kernel
theorem zsz_6 {o : Nat} (h : zin 294 o 6) : o + 6 ≤ 294 := by
  have h2 : ∀ o, o < 294 → zSH o = 6 → o + 6 ≤ 294 := by decide +kernel
  exact h2 o h.2 h.1
theorem lo_X8_3 : Cond.methodLink RX8 3 objectInit ∈ ztb := by decide +kernel
theorem fd_X8_9 : zFd RX8 9 8 0 (.array .int) := by unfold zFd; decide +kernel
theorem fd_X8_15 : zFd RX8 15 8 1 (.array .int) := by unfold zFd; decide +kernel
theorem zsz_8 {o : Nat} (h : zin 294 o 8) : o + 3 ≤ 294 := by
  have h2 : ∀ o, o < 294 → zSH o = 8 → o + 3 ≤ 294 := by decide +kernel
  exact h2 o h.2 h.1
theorem lo_X5_3 : Cond.methodLink RX5 3 objectInit ∈ ztb := by decide +kernel
theorem fd_X5_9 : zFd RX5 9 5 0 (.array .int) := by unfold zFd; decide +kernel
theorem fd_X5_15 : zFd RX5 15 5 1 (.array .int) := by unfold zFd; decide +kernel
theorem lo_X3_3 : Cond.methodLink RX3 3 objectInit ∈ ztb := by decide +kernel
theorem fd_X3_15 : zFd RX3 15 3 0 (.array .int) := by unfold zFd; decide +kernel
theorem fd_X3_21 : zFd RX3 21 3 1 (.array .int) := by unfold zFd; decide +kernel
theorem zsz_3 {o : Nat} (h : zin 294 o 3) : o + 3 ≤ 294 := by
  have h2 : ∀ o, o < 294 → zSH o = 3 → o + 3 ≤ 294 := by decide +kernel
  exact h2 o h.2 h.1
theorem zqJ_init (l : Launch) (G : Zg) (ρ : Zp) (σ : Zm) (o0 : Nat) (h0 : zin 294 o0 2) (res : Int × Zm) (he : fJ_init σ o0 = some res) : zMc l yX2_init cX2_init 1 1 G (o0 + 1) ρ σ [.ref (zad G o0)] (o0 + 4) (zcan ρ o0 (o0 + 4)) res.2 3 326 := by
  refine zMc_of he (by decide +kernel) rfl (Nat.le_of_ble_eq_true rfl) (lv := [(0, .ref (zad G o0))]) rfl (fun p e s m below meth c C hO hnm => ?_)
  unfold fJ_init
  refine zr_aloadn C 0 eX2_init_0 rfl ?_
  refine zr_objInit C lo_X2_3 zw_oinit ⟨Nat.le_of_ble_eq_true rfl, Nat.le_of_ble_eq_true rfl⟩ (Nat.le_of_ble_eq_true rfl) eX2_init_1 ?_
  refine zr_aloadn C 0 eX2_init_4 rfl ?_
  refine zr_bipush (a := 21) C eX2_init_5 rfl ?_
  refine zr_newa20 C (N := 21) (A := 21) ca_20 ((zk_2_0 h0).2).1 (zln_2_0 h0) w_21 rfl (Nat.le_of_ble_eq_true rfl) ⟨Nat.le_of_ble_eq_true rfl, Nat.le_of_ble_eq_true rfl⟩ eX2_init_7 (fun σ1 => ?_)
  refine zr_putR C fd_X2_9 rfl rfl hnm rfl ⟨(h0).1, by omega⟩ ((zk_2_0 h0).1) eX2_init_9 ?_
  refine zr_aloadn C 0 eX2_init_12 rfl ?_
  refine zr_sipush (a := 300) C eX2_init_13 rfl ?_
  refine zr_newa20 C (N := 300) (A := 300) ca_20 ((zk_2_1 h0).2).1 (zln_2_1 h0) w_300 rfl (Nat.le_of_ble_eq_true rfl) ⟨Nat.le_of_ble_eq_true rfl, Nat.le_of_ble_eq_true rfl⟩ eX2_init_16 (fun σ2 => ?_)
  refine zr_putR C fd_X2_15 rfl rfl hnm rfl ⟨(h0).1, by omega⟩ ((zk_2_1 h0).1) eX2_init_18 ?_
  refine zr_aloadn C 0 eX2_init_21 rfl ?_
  refine zr_iconst C eX2_init_22 rfl ?_
  refine zr_newa20 C (N := 5) (A := 5) ca_20 ((zk_2_2 h0).2).1 (zln_2_2 h0) w_5 rfl (Nat.le_of_ble_eq_true rfl) ⟨Nat.le_of_ble_eq_true rfl, Nat.le_of_ble_eq_true rfl⟩ eX2_init_23 (fun σ3 => ?_)
  refine zr_putR C fd_X2_18 rfl rfl hnm rfl ⟨(h0).1, by omega⟩ ((zk_2_2 h0).1) eX2_init_25 ?_
  refine zr_aloadn C 0 eX2_init_28 rfl ?_
  refine zr_iconst C eX2_init_29 rfl ?_
  refine zr_putI C ff_X2_21 rfl ⟨(h0).1, by omega⟩ eX2_init_30 (fun σ4 => ?_)
  refine zr_aloadn C 0 eX2_init_33 rfl ?_
  refine zr_iconst C eX2_init_34 rfl ?_
  refine zr_putI C ff_X2_25 rfl ⟨(h0).1, by omega⟩ eX2_init_35 (fun σ5 => ?_)
  refine zr_aloadn C 0 eX2_init_38 rfl ?_
  refine zr_iconst C eX2_init_39 rfl ?_
  refine zr_putI C ff_X2_28 rfl ⟨(h0).1, by omega⟩ eX2_init_40 (fun σ6 => ?_)
  refine zr_aloadn C 0 eX2_init_43 rfl ?_
  refine zr_iconst C eX2_init_44 rfl ?_
  refine zr_putI C ff_X2_31 rfl ⟨(h0).1, by omega⟩ eX2_init_45 (fun σ7 => ?_)
  refine zr_aloadn C 0 eX2_init_48 rfl ?_
  refine zr_iconst C eX2_init_49 rfl ?_
  refine zr_putI C ff_X2_34 rfl ⟨(h0).1, by omega⟩ eX2_init_50 (fun σ8 => ?_)
  refine zr_aloadn C 0 eX2_init_53 rfl ?_
  refine zr_iconst C eX2_init_54 rfl ?_
  refine zr_putI C ff_X2_37 rfl ⟨(h0).1, by omega⟩ eX2_init_55 (fun σ9 => ?_)
  refine zr_ρ (ρ' := zcan ρ o0 (o0 + 4)) (by have := h0.2; have := zsz_2 h0; omega) (fun p hp k hr => ?_) ?_
  · have hk : p = o0 → k = 0 ∨ k = 1 ∨ k = 2 := fun e => zir_2 (by rw [e]; exact (h0).1) hr
    have i1 : p ≠ (o0 + 1) := fun e => zir_no (by rw [e]; left; exact ((zk_2_0 h0).2).1) hr
    have i2 : p ≠ (o0 + 2) := fun e => zir_no (by rw [e]; left; exact ((zk_2_1 h0).2).1) hr
    have i3 : p ≠ (o0 + 3) := fun e => zir_no (by rw [e]; left; exact ((zk_2_2 h0).2).1) hr
    clear hr
    grind [zcan, zρs, zρf, zρm, zρS1, zρS2, zρK, zρX1, zρX2]
  exact zr_cret C (Nat.le_of_ble_eq_true rfl) (Nat.le_of_ble_eq_true rfl) eX2_init_58
theorem zqU_init (l : Launch) (G : Zg) (ρ : Zp) (σ : Zm) (o0 : Nat) (h0 : zin 294 o0 6) (res : Int × Zm) (he : fU_init σ o0 = some res) : zMc l yX6_init cX6_init 1 1 G (o0 + 1) ρ σ [.ref (zad G o0)] (o0 + 6) (zcan ρ o0 (o0 + 6)) res.2 5 340 := by
  refine zMc_of he (by decide +kernel) rfl (Nat.le_of_ble_eq_true rfl) (lv := [(0, .ref (zad G o0))]) rfl (fun p e s m below meth c C hO hnm => ?_)
  unfold fU_init
  refine zr_aloadn C 0 eX6_init_0 rfl ?_
  refine zr_objInit C lo_X6_3 zw_oinit ⟨Nat.le_of_ble_eq_true rfl, Nat.le_of_ble_eq_true rfl⟩ (Nat.le_of_ble_eq_true rfl) eX6_init_1 ?_
  refine zr_aloadn C 0 eX6_init_4 rfl ?_
  refine zr_sipush (a := 300) C eX6_init_5 rfl ?_
  refine zr_newa20 C (N := 300) (A := 300) ca_20 ((zk_6_0 h0).2).1 (zln_6_0 h0) w_300 rfl (Nat.le_of_ble_eq_true rfl) ⟨Nat.le_of_ble_eq_true rfl, Nat.le_of_ble_eq_true rfl⟩ eX6_init_8 (fun σ1 => ?_)
  refine zr_putR C fd_X6_9 rfl rfl hnm rfl ⟨(h0).1, by omega⟩ ((zk_6_0 h0).1) eX6_init_10 ?_
  refine zr_aloadn C 0 eX6_init_13 rfl ?_
  refine zr_bipush (a := 10) C eX6_init_14 rfl ?_
  refine zr_newa20 C (N := 10) (A := 10) ca_20 ((zk_6_1 h0).2).1 (zln_6_1 h0) w_10 rfl (Nat.le_of_ble_eq_true rfl) ⟨Nat.le_of_ble_eq_true rfl, Nat.le_of_ble_eq_true rfl⟩ eX6_init_16 (fun σ2 => ?_)
  refine zr_putR C fd_X6_15 rfl rfl hnm rfl ⟨(h0).1, by omega⟩ ((zk_6_1 h0).1) eX6_init_18 ?_
  refine zr_aloadn C 0 eX6_init_21 rfl ?_
  refine zr_bipush (a := 10) C eX6_init_22 rfl ?_
  refine zr_newa20 C (N := 10) (A := 10) ca_20 ((zk_6_2 h0).2).1 (zln_6_2 h0) w_10 rfl (Nat.le_of_ble_eq_true rfl) ⟨Nat.le_of_ble_eq_true rfl, Nat.le_of_ble_eq_true rfl⟩ eX6_init_24 (fun σ3 => ?_)
  refine zr_putR C fd_X6_18 rfl rfl hnm rfl ⟨(h0).1, by omega⟩ ((zk_6_2 h0).1) eX6_init_26 ?_
  refine zr_aloadn C 0 eX6_init_29 rfl ?_
  refine zr_bipush (a := 10) C eX6_init_30 rfl ?_
  refine zr_newa20 C (N := 10) (A := 10) ca_20 ((zk_6_3 h0).2).1 (zln_6_3 h0) w_10 rfl (Nat.le_of_ble_eq_true rfl) ⟨Nat.le_of_ble_eq_true rfl, Nat.le_of_ble_eq_true rfl⟩ eX6_init_32 (fun σ4 => ?_)
  refine zr_putR C fd_X6_21 rfl rfl hnm rfl ⟨(h0).1, by omega⟩ ((zk_6_3 h0).1) eX6_init_34 ?_
  refine zr_aloadn C 0 eX6_init_37 rfl ?_
  refine zr_bipush (a := 10) C eX6_init_38 rfl ?_
  refine zr_newa20 C (N := 10) (A := 10) ca_20 ((zk_6_4 h0).2).1 (zln_6_4 h0) w_10 rfl (Nat.le_of_ble_eq_true rfl) ⟨Nat.le_of_ble_eq_true rfl, Nat.le_of_ble_eq_true rfl⟩ eX6_init_40 (fun σ5 => ?_)
  refine zr_putR C fd_X6_24 rfl rfl hnm rfl ⟨(h0).1, by omega⟩ ((zk_6_4 h0).1) eX6_init_42 ?_
  refine zr_aloadn C 0 eX6_init_45 rfl ?_
  refine zr_iconst C eX6_init_46 rfl ?_
  refine zr_putI C ff_X6_27 rfl ⟨(h0).1, by omega⟩ eX6_init_47 (fun σ6 => ?_)
  refine zr_aloadn C 0 eX6_init_50 rfl ?_
  refine zr_iconst C eX6_init_51 rfl ?_
  refine zr_putI C ff_X6_31 rfl ⟨(h0).1, by omega⟩ eX6_init_52 (fun σ7 => ?_)
  refine zr_ρ (ρ' := zcan ρ o0 (o0 + 6)) (by have := h0.2; have := zsz_6 h0; omega) (fun p hp k hr => ?_) ?_
  · have hk : p = o0 → k = 0 ∨ k = 1 ∨ k = 2 ∨ k = 3 ∨ k = 4 := fun e => zir_6 (by rw [e]; exact (h0).1) hr
    have i1 : p ≠ (o0 + 1) := fun e => zir_no (by rw [e]; left; exact ((zk_6_0 h0).2).1) hr
    have i2 : p ≠ (o0 + 2) := fun e => zir_no (by rw [e]; left; exact ((zk_6_1 h0).2).1) hr
    have i3 : p ≠ (o0 + 3) := fun e => zir_no (by rw [e]; left; exact ((zk_6_2 h0).2).1) hr
    have i4 : p ≠ (o0 + 4) := fun e => zir_no (by rw [e]; left; exact ((zk_6_3 h0).2).1) hr
    have i5 : p ≠ (o0 + 5) := fun e => zir_no (by rw [e]; left; exact ((zk_6_4 h0).2).1) hr
    clear hr
    grind [zcan, zρs, zρf, zρm, zρS1, zρS2, zρK, zρX1, zρX2]
  exact zr_cret C (Nat.le_of_ble_eq_true rfl) (Nat.le_of_ble_eq_true rfl) eX6_init_55
theorem zqT_init (l : Launch) (G : Zg) (ρ : Zp) (σ : Zm) (o0 : Nat) (h0 : zin 294 o0 8) (res : Int × Zm) (he : fT_init σ o0 = some res) : zMc l yX8_init cX8_init 1 1 G (o0 + 1) ρ σ [.ref (zad G o0)] (o0 + 3) (zcan ρ o0 (o0 + 3)) res.2 2 50 := by
  refine zMc_of he (by decide +kernel) rfl (Nat.le_of_ble_eq_true rfl) (lv := [(0, .ref (zad G o0))]) rfl (fun p e s m below meth c C hO hnm => ?_)
  unfold fT_init
  refine zr_aloadn C 0 eX8_init_0 rfl ?_
  refine zr_objInit C lo_X8_3 zw_oinit ⟨Nat.le_of_ble_eq_true rfl, Nat.le_of_ble_eq_true rfl⟩ (Nat.le_of_ble_eq_true rfl) eX8_init_1 ?_
  refine zr_aloadn C 0 eX8_init_4 rfl ?_
  refine zr_bipush (a := 25) C eX8_init_5 rfl ?_
  refine zr_newa20 C (N := 25) (A := 25) ca_20 ((zk_8_0 h0).2).1 (zln_8_0 h0) w_25 rfl (Nat.le_of_ble_eq_true rfl) ⟨Nat.le_of_ble_eq_true rfl, Nat.le_of_ble_eq_true rfl⟩ eX8_init_7 (fun σ1 => ?_)
  refine zr_putR C fd_X8_9 rfl rfl hnm rfl ⟨(h0).1, by omega⟩ ((zk_8_0 h0).1) eX8_init_9 ?_
  refine zr_aloadn C 0 eX8_init_12 rfl ?_
  refine zr_bipush (a := 25) C eX8_init_13 rfl ?_
  refine zr_newa20 C (N := 25) (A := 25) ca_20 ((zk_8_1 h0).2).1 (zln_8_1 h0) w_25 rfl (Nat.le_of_ble_eq_true rfl) ⟨Nat.le_of_ble_eq_true rfl, Nat.le_of_ble_eq_true rfl⟩ eX8_init_15 (fun σ2 => ?_)
  refine zr_putR C fd_X8_15 rfl rfl hnm rfl ⟨(h0).1, by omega⟩ ((zk_8_1 h0).1) eX8_init_17 ?_
  refine zr_aloadn C 0 eX8_init_20 rfl ?_
  refine zr_iconst C eX8_init_21 rfl ?_
  refine zr_putI C ff_X8_18 rfl ⟨(h0).1, by omega⟩ eX8_init_22 (fun σ3 => ?_)
  refine zr_aloadn C 0 eX8_init_25 rfl ?_
  refine zr_iconst C eX8_init_26 rfl ?_
  refine zr_putI C ff_X8_22 rfl ⟨(h0).1, by omega⟩ eX8_init_27 (fun σ4 => ?_)
  refine zr_ρ (ρ' := zcan ρ o0 (o0 + 3)) (by have := h0.2; have := zsz_8 h0; omega) (fun p hp k hr => ?_) ?_
  · have hk : p = o0 → k = 0 ∨ k = 1 := fun e => zir_8 (by rw [e]; exact (h0).1) hr
    have i1 : p ≠ (o0 + 1) := fun e => zir_no (by rw [e]; left; exact ((zk_8_0 h0).2).1) hr
    have i2 : p ≠ (o0 + 2) := fun e => zir_no (by rw [e]; left; exact ((zk_8_1 h0).2).1) hr
    clear hr
    grind [zcan, zρs, zρf, zρm, zρS1, zρS2, zρK, zρX1, zρX2]
  exact zr_cret C (Nat.le_of_ble_eq_true rfl) (Nat.le_of_ble_eq_true rfl) eX8_init_30
theorem zqR_init (l : Launch) (G : Zg) (ρ : Zp) (σ : Zm) (res : Int × Zm) (he : fR_init σ = some res) : zMc l yX5_init cX5_init 1 1 G 151 ρ σ [.ref (zad G 150)] 153 (zcan ρ 150 153) res.2 2 600 := by
  refine zMc_of he (by decide +kernel) rfl (Nat.le_of_ble_eq_true rfl) (lv := [(0, .ref (zad G 150))]) rfl (fun p e s m below meth c C hO hnm => ?_)
  unfold fR_init
  refine zr_aloadn C 0 eX5_init_0 rfl ?_
  refine zr_objInit C lo_X5_3 zw_oinit ⟨Nat.le_of_ble_eq_true rfl, Nat.le_of_ble_eq_true rfl⟩ (Nat.le_of_ble_eq_true rfl) eX5_init_1 ?_
  refine zr_aloadn C 0 eX5_init_4 rfl ?_
  refine zr_sipush (a := 300) C eX5_init_5 rfl ?_
  refine zr_newa20 C (N := 300) (A := 300) ca_20 (zo_151).1 zn_151 w_300 rfl (Nat.le_of_ble_eq_true rfl) ⟨Nat.le_of_ble_eq_true rfl, Nat.le_of_ble_eq_true rfl⟩ eX5_init_8 (fun σ1 => ?_)
  refine zr_putR C fd_X5_9 rfl rfl hnm rfl ⟨(zo_150).1, by omega⟩ zf_150_0 eX5_init_10 ?_
  refine zr_aloadn C 0 eX5_init_13 rfl ?_
  refine zr_sipush (a := 300) C eX5_init_14 rfl ?_
  refine zr_newa20 C (N := 300) (A := 300) ca_20 (zo_152).1 zn_152 w_300 rfl (Nat.le_of_ble_eq_true rfl) ⟨Nat.le_of_ble_eq_true rfl, Nat.le_of_ble_eq_true rfl⟩ eX5_init_17 (fun σ2 => ?_)
  refine zr_putR C fd_X5_15 rfl rfl hnm rfl ⟨(zo_150).1, by omega⟩ zf_150_1 eX5_init_19 ?_
  refine zr_aloadn C 0 eX5_init_22 rfl ?_
  refine zr_iconst C eX5_init_23 rfl ?_
  refine zr_putI C ff_X5_18 rfl ⟨(zo_150).1, by omega⟩ eX5_init_24 (fun σ3 => ?_)
  refine zr_aloadn C 0 eX5_init_27 rfl ?_
  refine zr_iconst C eX5_init_28 rfl ?_
  refine zr_putI C ff_X5_22 rfl ⟨(zo_150).1, by omega⟩ eX5_init_29 (fun σ4 => ?_)
  refine zr_aloadn C 0 eX5_init_32 rfl ?_
  refine zr_iconst C eX5_init_33 rfl ?_
  refine zr_putI C ff_X5_25 rfl ⟨(zo_150).1, by omega⟩ eX5_init_34 (fun σ5 => ?_)
  refine zr_aloadn C 0 eX5_init_37 rfl ?_
  refine zr_iconst C eX5_init_38 rfl ?_
  refine zr_putI C ff_X5_28 rfl ⟨(zo_150).1, by omega⟩ eX5_init_39 (fun σ6 => ?_)
  refine zr_aloadn C 0 eX5_init_42 rfl ?_
  refine zr_iconst C eX5_init_43 rfl ?_
  refine zr_putI C ff_X5_31 rfl ⟨(zo_150).1, by omega⟩ eX5_init_44 (fun σ7 => ?_)
  refine zr_aloadn C 0 eX5_init_47 rfl ?_
  refine zr_bipush (a := 21) C eX5_init_48 rfl ?_
  refine zr_putI C ff_X5_34 rfl ⟨(zo_150).1, by omega⟩ eX5_init_50 (fun σ8 => ?_)
  refine zr_aloadn C 0 eX5_init_53 rfl ?_
  refine zr_iconst C eX5_init_54 rfl ?_
  refine zr_putI C ff_X5_37 rfl ⟨(zo_150).1, by omega⟩ eX5_init_55 (fun σ9 => ?_)
  refine zr_aloadn C 0 eX5_init_58 rfl ?_
  refine zr_iconst C eX5_init_59 rfl ?_
  refine zr_putI C ff_X5_40 rfl ⟨(zo_150).1, by omega⟩ eX5_init_60 (fun σ10 => ?_)
  refine zr_aloadn C 0 eX5_init_63 rfl ?_
  refine zr_iconst C eX5_init_64 rfl ?_
  refine zr_putI C ff_X5_43 rfl ⟨(zo_150).1, by omega⟩ eX5_init_65 (fun σ11 => ?_)
  refine zr_aloadn C 0 eX5_init_68 rfl ?_
  refine zr_iconst C eX5_init_69 rfl ?_
  refine zr_putZ C ff_X5_46 rfl ⟨(zo_150).1, by omega⟩ (Or.inl rfl) eX5_init_70 (fun σ12 => ?_)
  refine zr_aloadn C 0 eX5_init_73 rfl ?_
  refine zr_iconst C eX5_init_74 rfl ?_
  refine zr_putZ C ff_X5_50 rfl ⟨(zo_150).1, by omega⟩ (Or.inl rfl) eX5_init_75 (fun σ13 => ?_)
  refine zr_aloadn C 0 eX5_init_78 rfl ?_
  refine zr_iconst C eX5_init_79 rfl ?_
  refine zr_putI C ff_X5_53 rfl ⟨(zo_150).1, by omega⟩ eX5_init_80 (fun σ14 => ?_)
  refine zr_aloadn C 0 eX5_init_83 rfl ?_
  refine zr_iconst C eX5_init_84 rfl ?_
  refine zr_putI C ff_X5_56 rfl ⟨(zo_150).1, by omega⟩ eX5_init_85 (fun σ15 => ?_)
  refine zr_aloadn C 0 eX5_init_88 rfl ?_
  refine zr_iconst C eX5_init_89 rfl ?_
  refine zr_putI C ff_X5_59 rfl ⟨(zo_150).1, by omega⟩ eX5_init_90 (fun σ16 => ?_)
  refine zr_ρ (ρ' := zcan ρ 150 153) (by omega) (fun p hp k hr => ?_) ?_
  · have hk : p = 150 → k = 0 ∨ k = 1 := fun e => zir_5 (by rw [e]; exact (zo_150).1) hr
    have i1 : p ≠ 151 := fun e => zir_no (by rw [e]; left; exact (zo_151).1) hr
    have i2 : p ≠ 152 := fun e => zir_no (by rw [e]; left; exact (zo_152).1) hr
    clear hr
    grind [zcan, zρs, zρf, zρm, zρS1, zρS2, zρK, zρX1, zρX2]
  exact zr_cret C (Nat.le_of_ble_eq_true rfl) (Nat.le_of_ble_eq_true rfl) eX5_init_93
theorem zqL_init (l : Launch) (G : Zg) (ρ : Zp) (σ : Zm) (o0 : Nat) (h0 : zin 294 o0 3) (N9 : Nat) (hN : zLN (o0 + 1) = N9 ∧ zLN (o0 + 2) = N9) (A9 : Int) (hA9 : A9 = (N9 : Int)) (hw9 : zw A9 = A9) (res : Int × Zm) (he : fL_init σ o0 A9 = some res) : zMc l yX3_init cX3_init 2 1 G (o0 + 1) ρ σ [.ref (zad G o0), .int (zI A9)] (o0 + 3) (zcan ρ o0 (o0 + 3)) res.2 2 (2 * N9) := by
  refine zMc_of he (by decide +kernel) rfl (Nat.le_of_ble_eq_true rfl) (lv := [(0, .ref (zad G o0)), (1, .int (zI A9))]) rfl (fun p e s m below meth c C hO hnm => ?_)
  unfold fL_init
  have hN9 := hN.1
  have hN9b := hN.2
  refine zr_aloadn C 0 eX3_init_0 rfl ?_
  refine zr_objInit C lo_X3_3 zw_oinit ⟨Nat.le_of_ble_eq_true rfl, Nat.le_of_ble_eq_true rfl⟩ (Nat.le_of_ble_eq_true rfl) eX3_init_1 ?_
  refine zr_aloadn C 0 eX3_init_4 rfl ?_
  refine zr_iconst C eX3_init_5 rfl ?_
  refine zr_iloadn C 1 eX3_init_6 rfl ?_
  refine zr_mmaxq C lk_X3_9 zy_mmax (by unfold zRm; exact ⟨⟨Nat.le_of_ble_eq_true rfl, Nat.le_of_ble_eq_true rfl⟩, by show _ ≤ 2; omega, by show _ ≤ 2 * N9; omega⟩) (Nat.le_of_ble_eq_true rfl) w_0 hw9 eX3_init_7 (fun v1 ev1 nv1 => ?_)
  refine zr_newa20 C (N := N9) ca_20 ((zk_3_0 h0).2).1 hN9 nv1 (by rw [ev1]; omega) (by have := zLN_le (o0 + 1); omega) ⟨by show _ ≤ 2; omega, by show _ ≤ 2 * N9; omega⟩ eX3_init_10 (fun σ2 => ?_)
  refine zr_putR C fd_X3_15 rfl rfl hnm rfl ⟨(h0).1, by omega⟩ ((zk_3_0 h0).1) eX3_init_12 ?_
  refine zr_aloadn C 0 eX3_init_15 rfl ?_
  refine zr_iconst C eX3_init_16 rfl ?_
  refine zr_iloadn C 1 eX3_init_17 rfl ?_
  refine zr_mmaxq C lk_X3_9 zy_mmax (by unfold zRm; exact ⟨⟨Nat.le_of_ble_eq_true rfl, Nat.le_of_ble_eq_true rfl⟩, by show _ ≤ 2; omega, by show _ ≤ 2 * N9; omega⟩) (Nat.le_of_ble_eq_true rfl) w_0 hw9 eX3_init_18 (fun v3 ev3 nv3 => ?_)
  refine zr_newa20 C (N := N9) ca_20 ((zk_3_1 h0).2).1 hN9b nv3 (by rw [ev3]; omega) (by have := zLN_le (o0 + 1); omega) ⟨by show _ ≤ 2; omega, by show _ ≤ 2 * N9; omega⟩ eX3_init_21 (fun σ4 => ?_)
  refine zr_putR C fd_X3_21 rfl rfl hnm rfl ⟨(h0).1, by omega⟩ ((zk_3_1 h0).1) eX3_init_23 ?_
  refine zr_ρ (ρ' := zcan ρ o0 (o0 + 3)) (by have := h0.2; have := zsz_3 h0; omega) (fun p hp k hr => ?_) ?_
  · have hk : p = o0 → k = 0 ∨ k = 1 := fun e => zir_3 (by rw [e]; exact h0.1) hr
    have i1 : p ≠ o0 + 1 := fun e => zir_no (by rw [e]; left; exact (zk_3_0 h0).2.1) hr
    have i2 : p ≠ o0 + 2 := fun e => zir_no (by rw [e]; left; exact (zk_3_1 h0).2.1) hr
    clear hr
    grind [zcan, zρs, zρf, zρm, zρS1, zρS2, zρK, zρX1, zρX2]
  exact zr_cret C (by omega) (by omega) eX3_init_26

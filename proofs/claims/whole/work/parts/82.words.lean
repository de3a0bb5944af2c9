/-! MY OWN: what the reference makes of a token -/
theorem wk_pair {σ : Zm} {F : Int → Zm → Zr} : zbl (fM_w4 σ 112 97 105 114) F = F 1885432178 σ := by
  unfold fM_w4 fM_w3
  rw [zbl_some, zbl_some, show zx (zlor (zlshl (zx (zlor (zlshl (zlor (zlshl 112 8) 97) 8) 105)) 8) 114) = 1885432178 by decide +kernel]
theorem wk_line {σ : Zm} {F : Int → Zm → Zr} : zbl (fM_w4 σ 108 105 110 101) F = F 1818848869 σ := by
  unfold fM_w4 fM_w3
  rw [zbl_some, zbl_some, show zx (zlor (zlshl (zx (zlor (zlshl (zlor (zlshl 108 8) 105) 8) 110)) 8) 101) = 1818848869 by decide +kernel]
theorem wk_ahead {σ : Zm} {F : Int → Zm → Zr} : zbl (fM_w5 σ 97 104 101 97 100) F = F 418363302244 σ := by
  unfold fM_w5 fM_w3
  rw [zbl_some, zbl_some, show zx (zlor (zlshl (zlor (zlshl (zx (zlor (zlshl (zlor (zlshl 97 8) 104) 8) 101)) 8) 97) 8) 100) = 418363302244 by decide +kernel]
theorem wk_beside {σ : Zm} {F : Int → Zm → Zr} : zbl (fM_w6 σ 98 101 115 105 100 101) F = F 108187867505765 σ := by
  unfold fM_w6 fM_w5 fM_w3
  rw [zbl_some, zbl_some, zbl_some, show zx (zlor (zlshl (zx (zlor (zlshl (zlor (zlshl (zx (zlor (zlshl (zlor (zlshl 98 8) 101) 8) 115)) 8) 105) 8) 100)) 8) 101) = 108187867505765 by decide +kernel]
theorem wk_when {σ : Zm} {F : Int → Zm → Zr} : zbl (fM_w4 σ 119 104 101 110) F = F 2003330414 σ := by
  unfold fM_w4 fM_w3
  rw [zbl_some, zbl_some, show zx (zlor (zlshl (zx (zlor (zlshl (zlor (zlshl 119 8) 104) 8) 101)) 8) 110) = 2003330414 by decide +kernel]
theorem wk_and {σ : Zm} {F : Int → Zm → Zr} : zbl (fM_w3 σ 97 110 100) F = F 6385252 σ := by
  unfold fM_w3
  rw [zbl_some, show zx (zlor (zlshl (zlor (zlshl 97 8) 110) 8) 100) = 6385252 by decide +kernel]
theorem wk_not {σ : Zm} {F : Int → Zm → Zr} : zbl (fM_w3 σ 110 111 116) F = F 7237492 σ := by
  unfold fM_w3
  rw [zbl_some, show zx (zlor (zlshl (zlor (zlshl 110 8) 111) 8) 116) = 7237492 by decide +kernel]
theorem wk_gap {σ : Zm} {F : Int → Zm → Zr} : zbl (fM_w3 σ 103 97 112) F = F 6775152 σ := by
  unfold fM_w3
  rw [zbl_some, show zx (zlor (zlshl (zlor (zlshl 103 8) 97) 8) 112) = 6775152 by decide +kernel]
theorem wk_was {σ : Zm} {F : Int → Zm → Zr} : zbl (fM_w3 σ 119 97 115) F = F 7823731 σ := by
  unfold fM_w3
  rw [zbl_some, show zx (zlor (zlshl (zlor (zlshl 119 8) 97) 8) 115) = 7823731 by decide +kernel]
theorem wk_mine {σ : Zm} {F : Int → Zm → Zr} : zbl (fM_w4 σ 109 105 110 101) F = F 1835626085 σ := by
  unfold fM_w4 fM_w3
  rw [zbl_some, zbl_some, show zx (zlor (zlshl (zx (zlor (zlshl (zlor (zlshl 109 8) 105) 8) 110)) 8) 101) = 1835626085 by decide +kernel]
theorem wk_yours {σ : Zm} {F : Int → Zm → Zr} : zbl (fM_w5 σ 121 111 117 114 115) F = F 521561010803 σ := by
  unfold fM_w5 fM_w3
  rw [zbl_some, zbl_some, show zx (zlor (zlshl (zlor (zlshl (zx (zlor (zlshl (zlor (zlshl 121 8) 111) 8) 117)) 8) 114) 8) 115) = 521561010803 by decide +kernel]
theorem wk_low {σ : Zm} {F : Int → Zm → Zr} : zbl (fM_w3 σ 108 111 119) F = F 7106423 σ := by
  unfold fM_w3
  rw [zbl_some, show zx (zlor (zlshl (zlor (zlshl 108 8) 111) 8) 119) = 7106423 by decide +kernel]
theorem wk_high {σ : Zm} {F : Int → Zm → Zr} : zbl (fM_w4 σ 104 105 103 104) F = F 1751738216 σ := by
  unfold fM_w4 fM_w3
  rw [zbl_some, zbl_some, show zx (zlor (zlshl (zx (zlor (zlshl (zlor (zlshl 104 8) 105) 8) 103)) 8) 104) = 1751738216 by decide +kernel]
theorem wk_cross {σ : Zm} {F : Int → Zm → Zr} : zbl (fM_w5 σ 99 114 111 115 115) F = F 427121668979 σ := by
  unfold fM_w5 fM_w3
  rw [zbl_some, zbl_some, show zx (zlor (zlshl (zlor (zlshl (zx (zlor (zlshl (zlor (zlshl 99 8) 114) 8) 111)) 8) 115) 8) 115) = 427121668979 by decide +kernel]
theorem wk_hold {σ : Zm} {F : Int → Zm → Zr} : zbl (fM_w4 σ 104 111 108 100) F = F 1752132708 σ := by
  unfold fM_w4 fM_w3
  rw [zbl_some, zbl_some, show zx (zlor (zlshl (zx (zlor (zlshl (zlor (zlshl 104 8) 111) 8) 108)) 8) 100) = 1752132708 by decide +kernel]
theorem wk_place {σ : Zm} {F : Int → Zm → Zr} : zbl (fM_w5 σ 112 108 97 99 101) F = F 482854658917 σ := by
  unfold fM_w5 fM_w3
  rw [zbl_some, zbl_some, show zx (zlor (zlshl (zlor (zlshl (zx (zlor (zlshl (zlor (zlshl 112 8) 108) 8) 97)) 8) 99) 8) 101) = 482854658917 by decide +kernel]
theorem wk_step {σ : Zm} {F : Int → Zm → Zr} : zbl (fM_w4 σ 115 116 101 112) F = F 1937007984 σ := by
  unfold fM_w4 fM_w3
  rw [zbl_some, zbl_some, show zx (zlor (zlshl (zx (zlor (zlshl (zlor (zlshl 115 8) 116) 8) 101)) 8) 112) = 1937007984 by decide +kernel]
theorem wk_last {σ : Zm} {F : Int → Zm → Zr} : zbl (fM_w4 σ 108 97 115 116) F = F 1818325876 σ := by
  unfold fM_w4 fM_w3
  rw [zbl_some, zbl_some, show zx (zlor (zlshl (zx (zlor (zlshl (zlor (zlshl 108 8) 97) 8) 115)) 8) 116) = 1818325876 by decide +kernel]
theorem wk_pitch {σ : Zm} {F : Int → Zm → Zr} : zbl (fM_w5 σ 112 105 116 99 104) F = F 482805572456 σ := by
  unfold fM_w5 fM_w3
  rw [zbl_some, zbl_some, show zx (zlor (zlshl (zlor (zlshl (zx (zlor (zlshl (zlor (zlshl 112 8) 105) 8) 116)) 8) 99) 8) 104) = 482805572456 by decide +kernel]
theorem wk_rest {σ : Zm} {F : Int → Zm → Zr} : zbl (fM_w4 σ 114 101 115 116) F = F 1919251316 σ := by
  unfold fM_w4 fM_w3
  rw [zbl_some, zbl_some, show zx (zlor (zlshl (zx (zlor (zlshl (zlor (zlshl 114 8) 101) 8) 115)) 8) 116) = 1919251316 by decide +kernel]
theorem wk_number {σ : Zm} {F : Int → Zm → Zr} : zbl (fM_w6 σ 110 117 109 98 101 114) F = F 121450625394034 σ := by
  unfold fM_w6 fM_w5 fM_w3
  rw [zbl_some, zbl_some, zbl_some, show zx (zlor (zlshl (zx (zlor (zlshl (zlor (zlshl (zx (zlor (zlshl (zlor (zlshl 110 8) 117) 8) 109)) 8) 98) 8) 101)) 8) 114) = 121450625394034 by decide +kernel]
theorem wk_ruling {σ : Zm} {F : Int → Zm → Zr} : zbl (fM_w6 σ 114 117 108 105 110 103) F = F 125848655588967 σ := by
  unfold fM_w6 fM_w5 fM_w3
  rw [zbl_some, zbl_some, zbl_some, show zx (zlor (zlshl (zx (zlor (zlshl (zlor (zlshl (zx (zlor (zlshl (zlor (zlshl 114 8) 117) 8) 108)) 8) 105) 8) 110)) 8) 103) = 125848655588967 by decide +kernel]
theorem wk_ink {σ : Zm} {F : Int → Zm → Zr} : zbl (fM_w3 σ 105 110 107) F = F 6909547 σ := by
  unfold fM_w3
  rw [zbl_some, show zx (zlor (zlshl (zlor (zlshl 105 8) 110) 8) 107) = 6909547 by decide +kernel]
theorem wk_size {σ : Zm} {F : Int → Zm → Zr} : zbl (fM_w4 σ 115 105 122 101) F = F 1936292453 σ := by
  unfold fM_w4 fM_w3
  rw [zbl_some, zbl_some, show zx (zlor (zlshl (zx (zlor (zlshl (zlor (zlshl 115 8) 105) 8) 122)) 8) 101) = 1936292453 by decide +kernel]
theorem wk_inkb {σ : Zm} {F : Int → Zm → Zr} : zbl (fM_w4 σ 105 110 107 98) F = F 1768844130 σ := by
  unfold fM_w4 fM_w3
  rw [zbl_some, zbl_some, show zx (zlor (zlshl (zx (zlor (zlshl (zlor (zlshl 105 8) 110) 8) 107)) 8) 98) = 1768844130 by decide +kernel]
theorem wk_sizeb {σ : Zm} {F : Int → Zm → Zr} : zbl (fM_w5 σ 115 105 122 101 98) F = F 495690868066 σ := by
  unfold fM_w5 fM_w3
  rw [zbl_some, zbl_some, show zx (zlor (zlshl (zlor (zlshl (zx (zlor (zlshl (zlor (zlshl 115 8) 105) 8) 122)) 8) 101) 8) 98) = 495690868066 by decide +kernel]
theorem wk_numberb : zlor (zlshl 121450625394034 8) 98 = 31091360100872802 := by decide +kernel
theorem wk_rulingb : zlor (zlshl 125848655588967 8) 98 = 32217255830775650 := by decide +kernel
theorem wfn_inv (v : Nat) : ∀ (l : List Nat) (k : Int), wfn v l k ≠ -1 → ∃ i : Nat, i < l.length ∧ wfn v l k = k + i ∧ v = l.getD i 0
  | [], k, h => absurd rfl h
  | a :: l, k, h => by
    have e : wfn v (a :: l) k = if v = a then k else wfn v l (k + 1) := rfl
    rw [e] at h ⊢
    by_cases c : v = a
    · rw [if_pos c]
      exact ⟨0, by simp, by simp, by rw [c]; rfl⟩
    · rw [if_neg c] at h ⊢
      obtain ⟨i, h1, h2, h3⟩ := wfn_inv v l (k + 1) h
      exact ⟨i + 1, by simp only [List.length_cons]; omega, by rw [h2]; omega, by rw [h3]; rfl⟩
theorem wnm_iff {v i : Nat} (hi : i < 29) : wnm v = (i : Int) ↔ v = wtb.getD i 0 := by
  constructor
  · intro h
    obtain ⟨j, _, h2, h3⟩ := wfn_inv v wtb 0 (by have : wfn v wtb 0 = (i : Int) := h; omega)
    have : wfn v wtb 0 = (i : Int) := h
    have : i = j := by omega
    rw [this]; exact h3
  · intro h
    rw [h]
    have : ∀ i : Nat, i < 29 → wnm (wtb.getD i 0) = (i : Int) := by decide +kernel
    exact this i hi
/-- a word that lies in the reference's memory -/
theorem zlc_w {v i : Nat} {w : Int} (hv : v < 72057594037927936) (hi : i < 29) (hw : w = ((wtb.getD i 0 : Nat) : Int)) : zlc (v : Int) w = 0 ↔ wnm v = (i : Int) := by
  have hb : ∀ i : Nat, i < 29 → wtb.getD i 0 < 72057594037927936 := by decide +kernel
  have := hb i hi
  rw [wnm_iff hi, hw]
  unfold zlc
  rw [zx_id (by omega) (by omega), zx_id (by omega) (by omega)]
  constructor
  · intro h
    split at h
    · omega
    · split at h
      · omega
      · omega
  · intro h
    rw [if_neg (by omega), if_pos (by omega)]
def KSg (k x : Int) : Prop := (k = 0 ∧ x = 40) ∨ (k = 4 ∧ x = 60) ∨ (k = 5 ∧ x = 4) ∨ (k = 6 ∧ x = 62) ∨ (k = 7 ∧ x = 5) ∨ (k = 8 ∧ x = 61) ∨ (k = 9 ∧ x = 35) ∨ (k = 10 ∧ x = 43) ∨ (k = 11 ∧ x = 45) ∨ (k = 12 ∧ x = 42) ∨ (k = 13 ∧ x = 47) ∨ (k = 15 ∧ x = 41) ∨ (k = 16 ∧ x = 59) ∨ (k = 21 ∧ x = 0) ∨ (k = 22 ∧ x = 3)
theorem KSg_0 : KSg 0 40 := Or.inl ⟨rfl, rfl⟩
theorem KSg_1 : KSg 4 60 := Or.inr (Or.inl ⟨rfl, rfl⟩)
theorem KSg_2 : KSg 5 4 := Or.inr (Or.inr (Or.inl ⟨rfl, rfl⟩))
theorem KSg_3 : KSg 6 62 := Or.inr (Or.inr (Or.inr (Or.inl ⟨rfl, rfl⟩)))
theorem KSg_4 : KSg 7 5 := Or.inr (Or.inr (Or.inr (Or.inr (Or.inl ⟨rfl, rfl⟩))))
theorem KSg_5 : KSg 8 61 := Or.inr (Or.inr (Or.inr (Or.inr (Or.inr (Or.inl ⟨rfl, rfl⟩)))))
theorem KSg_6 : KSg 9 35 := Or.inr (Or.inr (Or.inr (Or.inr (Or.inr (Or.inr (Or.inl ⟨rfl, rfl⟩))))))
theorem KSg_7 : KSg 10 43 := Or.inr (Or.inr (Or.inr (Or.inr (Or.inr (Or.inr (Or.inr (Or.inl ⟨rfl, rfl⟩)))))))
theorem KSg_8 : KSg 11 45 := Or.inr (Or.inr (Or.inr (Or.inr (Or.inr (Or.inr (Or.inr (Or.inr (Or.inl ⟨rfl, rfl⟩))))))))
theorem KSg_9 : KSg 12 42 := Or.inr (Or.inr (Or.inr (Or.inr (Or.inr (Or.inr (Or.inr (Or.inr (Or.inr (Or.inl ⟨rfl, rfl⟩)))))))))
theorem KSg_10 : KSg 13 47 := Or.inr (Or.inr (Or.inr (Or.inr (Or.inr (Or.inr (Or.inr (Or.inr (Or.inr (Or.inr (Or.inl ⟨rfl, rfl⟩))))))))))
theorem KSg_11 : KSg 15 41 := Or.inr (Or.inr (Or.inr (Or.inr (Or.inr (Or.inr (Or.inr (Or.inr (Or.inr (Or.inr (Or.inr (Or.inl ⟨rfl, rfl⟩)))))))))))
theorem KSg_12 : KSg 16 59 := Or.inr (Or.inr (Or.inr (Or.inr (Or.inr (Or.inr (Or.inr (Or.inr (Or.inr (Or.inr (Or.inr (Or.inr (Or.inl ⟨rfl, rfl⟩))))))))))))
theorem KSg_13 : KSg 21 0 := Or.inr (Or.inr (Or.inr (Or.inr (Or.inr (Or.inr (Or.inr (Or.inr (Or.inr (Or.inr (Or.inr (Or.inr (Or.inr (Or.inl ⟨rfl, rfl⟩)))))))))))))
theorem KSg_14 : KSg 22 3 := Or.inr (Or.inr (Or.inr (Or.inr (Or.inr (Or.inr (Or.inr (Or.inr (Or.inr (Or.inr (Or.inr (Or.inr (Or.inr (Or.inr (⟨rfl, rfl⟩))))))))))))))
theorem KSg_no {k x : Int} (h : KSg k x) : k ≠ 1 ∧ k ≠ 2 ∧ k ≠ 3 ∧ k ≠ 17 ∧ k ≠ 18 ∧ k ≠ 19 ∧ k ≠ 20 := by
  unfold KSg at h
  rcases h with ⟨z, _⟩ | ⟨z, _⟩ | ⟨z, _⟩ | ⟨z, _⟩ | ⟨z, _⟩ | ⟨z, _⟩ | ⟨z, _⟩ | ⟨z, _⟩ | ⟨z, _⟩ | ⟨z, _⟩ | ⟨z, _⟩ | ⟨z, _⟩ | ⟨z, _⟩ | ⟨z, _⟩ | ⟨z, _⟩ <;> (subst z; decide)
/-- the kinds of tokens, the class's and the reference's -/
def KK (k v : Int) (σ : Zm) : Prop := (∃ w : Nat, w < 72057594037927936 ∧ zrd σ 273 9 = 2 ∧ zrl σ 273 11 = (w : Int) ∧ k = wkd (wnm w) ∧ v = if wnm w < 8 then wnm w else wnm w - 8) ∨ (k = 20 ∧ zrd σ 273 9 = 1 ∧ 0 ≤ zrd σ 273 10 ∧ min 1000 (zrd σ 273 10) = v) ∨ (zrd σ 273 9 ≠ 1 ∧ zrd σ 273 9 ≠ 2 ∧ KSg k (zrd σ 273 9))
theorem KK_of {f : Nat → Int} {L s : Nat} {σ : Zm} (ht : mtape f L σ) (h : MK f L s σ) : KK (tk f L s) (tvl f L s) σ := by
  unfold MK at h
  unfold tk tvl
  have fin3 : ∀ k v : Int, zrd σ 273 9 ≠ 1 → zrd σ 273 9 ≠ 2 → KSg k (zrd σ 273 9) → KK k v σ := fun k v a b c => Or.inr (Or.inr ⟨a, b, c⟩)
  by_cases c0 : L ≤ s
  · rw [if_pos c0] at h ⊢
    rw [show zrd σ 273 9 = 0 from h] at fin3
    exact fin3 _ _ (by decide) (by decide) (KSg_13)
  · rw [if_neg c0] at h ⊢
    by_cases c1 : isl (f s) = true
    · rw [if_pos c1] at h
      rw [if_pos c1, if_pos c1]
      refine Or.inl ⟨_, ?_, h.1, h.2, rfl, rfl⟩
      unfold wv
      have hr := rn_bd isl f (L - s) s
      split
      · have hb := pk_bd (f := f) (s := s) (rn isl f (L - s) s - s) (fun j hj => (ht.2.2 (s + j) (by omega)).2)
        have hp : (256 : Nat) ^ (rn isl f (L - s) s - s) ≤ 256 ^ 7 := Nat.pow_le_pow_right (by omega) (by omega)
        have : (256 : Nat) ^ 7 = 72057594037927936 := by decide
        omega
      · omega
    · rw [if_neg c1] at h
      rw [if_neg c1, if_neg c1]
      by_cases c2 : isd (f s) = true
      · rw [if_pos c2] at h ⊢
        exact Or.inr (Or.inl ⟨rfl, h⟩)
      · rw [if_neg c2] at h
        rw [if_neg c2]
        by_cases c3 : two f L s = true
        · rw [if_pos c3] at h ⊢
          unfold two at c3
          simp at c3
          by_cases z : f s = 60
          · rw [if_pos z] at h
            rw [h] at fin3
            rw [z]
            exact fin3 _ _ (by decide) (by decide) (KSg_2)
          · have z2 : f s = 62 := by
              rcases c3.1.1 with q | q
              · exact absurd q z
              · exact q
            rw [if_neg z] at h
            rw [h] at fin3
            rw [z2]
            exact fin3 _ _ (by decide) (by decide) (KSg_4)
        · rw [if_neg c3] at h ⊢
          rw [h] at fin3
          rcases sgk_c (f s) with ⟨z, y⟩ | ⟨z, y⟩ | ⟨z, y⟩ | ⟨z, y⟩ | ⟨z, y⟩ | ⟨z, y⟩ | ⟨z, y⟩ | ⟨z, y⟩ | ⟨z, y⟩ | ⟨z, y⟩ | ⟨z, y⟩ | ⟨z, y⟩
          · rw [z] at fin3 ⊢; exact fin3 _ _ (by decide) (by decide) (KSg_6)
          · rw [z] at fin3 ⊢; exact fin3 _ _ (by decide) (by decide) (KSg_0)
          · rw [z] at fin3 ⊢; exact fin3 _ _ (by decide) (by decide) (KSg_11)
          · rw [z] at fin3 ⊢; exact fin3 _ _ (by decide) (by decide) (KSg_9)
          · rw [z] at fin3 ⊢; exact fin3 _ _ (by decide) (by decide) (KSg_7)
          · rw [z] at fin3 ⊢; exact fin3 _ _ (by decide) (by decide) (KSg_8)
          · rw [z] at fin3 ⊢; exact fin3 _ _ (by decide) (by decide) (KSg_10)
          · rw [z] at fin3 ⊢; exact fin3 _ _ (by decide) (by decide) (KSg_12)
          · rw [z] at fin3 ⊢; exact fin3 _ _ (by decide) (by decide) (KSg_1)
          · rw [z] at fin3 ⊢; exact fin3 _ _ (by decide) (by decide) (KSg_5)
          · rw [z] at fin3 ⊢; exact fin3 _ _ (by decide) (by decide) (KSg_3)
          · have e : sgm1 (f s) = 3 := if_neg (by omega)
            rw [e] at fin3
            rw [y]
            exact fin3 _ _ (by decide) (by decide) (KSg_14)
theorem qM_isWord {k v : Int} {σ : Zm} (h : KK k v σ) {i : Nat} {w : Int} (hi : i < 8) (hw : w = ((wtb.getD i 0 : Nat) : Int)) : fM_isWord σ w = some (if k = wkd i ∧ (i < 4 → v = i) then 1 else 0, σ) := by
  unfold fM_isWord
  simp only [zlet]
  have hki : wkd (i : Int) = if i < 4 then 18 else if i = 4 then 17 else (i : Int) - 4 := by
    have : ∀ i : Nat, i < 8 → wkd (i : Int) = if i < 4 then 18 else if i = 4 then 17 else (i : Int) - 4 := by decide
    exact this i hi
  rcases h with ⟨u, h1, h2, h3, h4, h5⟩ | ⟨h1, h2, h3, h4⟩ | ⟨h1, h2, h3⟩
  · have hz := zlc_w (v := u) h1 (show i < 29 by omega) hw
    have hc := wkd_c _ (wnm_bd u)
    rw [ifnn h2, h3]
    by_cases c : wnm u = (i : Int)
    · rw [ifnn (hz.2 c), if_pos]
      refine ⟨by rw [h4, c], fun q => ?_⟩
      rw [h5, if_pos (by omega)]; exact c
    · rw [if_pos (fun q => c (hz.1 q)), if_neg]
      rintro ⟨q1, q2⟩
      rw [h4, hki] at q1
      by_cases c4 : i < 4
      · have := q2 c4
        rw [if_pos c4] at q1
        rw [h5] at this
        split at this <;> omega
      · rw [if_neg c4] at q1
        split at q1 <;> omega
  · rw [if_pos (by omega), if_neg]
    rintro ⟨q1, q2⟩
    rw [hki] at q1
    split at q1
    · omega
    · split at q1 <;> omega
  · rw [if_pos h2, if_neg]
    rintro ⟨q1, q2⟩
    rw [hki] at q1
    have hq : k = 18 ∨ k = 17 ∨ (1 ≤ k ∧ k ≤ 3) := by
      split at q1
      · omega
      · split at q1 <;> omega
    unfold KSg at h3
    clear q1 q2 hki
    rcases h3 with ⟨z, _⟩ | ⟨z, _⟩ | ⟨z, _⟩ | ⟨z, _⟩ | ⟨z, _⟩ | ⟨z, _⟩ | ⟨z, _⟩ | ⟨z, _⟩ | ⟨z, _⟩ | ⟨z, _⟩ | ⟨z, _⟩ | ⟨z, _⟩ | ⟨z, _⟩ | ⟨z, _⟩ | ⟨z, _⟩ <;> omega
theorem word_eq {k v : Int} {σ : Zm} (h : KK k v σ) {i : Nat} {w : Int} {F : Int → Zm → Zr} (hi : i < 8) (hw : w = ((wtb.getD i 0 : Nat) : Int)) : zbi (fM_isWord σ w) F = if k = wkd i ∧ (i < 4 → v = i) then F 1 σ else F 0 σ := by
  rw [zbi_eq (qM_isWord h hi hw)]
  split <;> rfl
/-- the sort's word -/
theorem qM_sortOf {k v : Int} {σ : Zm} (h : KK k v σ) (hv : k = 18 → 0 ≤ v ∧ v ≤ 3) : fM_sortOf σ = some (if k = 18 then v + 1 else 0, σ) := by
  unfold fM_sortOf
  rw [wk_pair, word_eq h (i := 0) (w := 1885432178) (by decide) (by decide), show wkd ((0 : Nat) : Int) = 18 by rfl]
  by_cases c : k = 18
  · have hv' := hv c
    rw [if_pos c]
    by_cases v0 : v = 0
    · rw [if_pos ⟨c, fun _ => v0⟩, if_neg (by decide), v0]; rfl
    · rw [if_neg (fun z => v0 (z.2 (by decide))), if_pos rfl, wk_line, word_eq h (i := 1) (w := 1818848869) (by decide) (by decide), show wkd ((1 : Nat) : Int) = 18 by rfl]
      by_cases v1 : v = 1
      · rw [if_pos ⟨c, fun _ => v1⟩, if_neg (by decide), v1]; rfl
      · rw [if_neg (fun z => v1 (z.2 (by decide))), if_pos rfl, wk_ahead, word_eq h (i := 2) (w := 418363302244) (by decide) (by decide), show wkd ((2 : Nat) : Int) = 18 by rfl]
        by_cases v2 : v = 2
        · rw [if_pos ⟨c, fun _ => v2⟩, if_neg (by decide), v2]; rfl
        · rw [if_neg (fun z => v2 (z.2 (by decide))), if_pos rfl, wk_beside, word_eq h (i := 3) (w := 108187867505765) (by decide) (by decide), show wkd ((3 : Nat) : Int) = 18 by rfl]
          have v3 : v = 3 := by omega
          rw [if_pos ⟨c, fun _ => v3⟩, if_neg (by decide), v3]; rfl
  · rw [if_neg c, if_neg (fun z => c z.1), if_pos rfl, wk_line, word_eq h (i := 1) (w := 1818848869) (by decide) (by decide), show wkd ((1 : Nat) : Int) = 18 by rfl, if_neg (fun z => c z.1), if_pos rfl, wk_ahead, word_eq h (i := 2) (w := 418363302244) (by decide) (by decide), show wkd ((2 : Nat) : Int) = 18 by rfl, if_neg (fun z => c z.1), if_pos rfl, wk_beside, word_eq h (i := 3) (w := 108187867505765) (by decide) (by decide), show wkd ((3 : Nat) : Int) = 18 by rfl, if_neg (fun z => c z.1), if_pos rfl]
/-- the name's number -/
def nmI (n : Int) : Int := if n < 8 then -1 else if n ≤ 15 then n - 8 else if n = 16 then 12 else if n ≤ 20 then n - 9 else -1
theorem out13 {n : Int} (d8 : ¬ n = 8) (d9 : ¬ n = 9) (d10 : ¬ n = 10) (d11 : ¬ n = 11) (d12 : ¬ n = 12) (d13 : ¬ n = 13) (d14 : ¬ n = 14) (d15 : ¬ n = 15) (d16 : ¬ n = 16) (d17 : ¬ n = 17) (d18 : ¬ n = 18) (d19 : ¬ n = 19) (d20 : ¬ n = 20) : n < 8 ∨ 20 < n := by omega
theorem nmI_no {n : Int} (h : n < 8 ∨ 20 < n) : nmI n = -1 := by
  unfold nmI
  by_cases c : n < 8
  · rw [if_pos c]
  · rw [if_neg c, if_neg (by omega), if_neg (by omega), if_neg (by omega)]
theorem qM_ofVoices {u : Nat} {σ : Zm} (h1 : u < 72057594037927936) (h3 : zrl σ 273 11 = (u : Int)) : fM_ofVoices σ = some (nmI (wnm u), σ) := by
  have hb := wnm_bd u
  unfold fM_ofVoices
  simp only [zlet]
  rw [h3]
  rw [wk_gap]
  have z8 := zlc_w (v := u) (i := 8) (w := 6775152) h1 (by decide) (by decide)
  by_cases d8 : wnm u = 8
  · rw [ifnn (z8.2 d8), d8]; rfl
  rw [if_pos (fun q => d8 (z8.1 q))]
  rw [wk_was, h3]
  have z9 := zlc_w (v := u) (i := 9) (w := 7823731) h1 (by decide) (by decide)
  by_cases d9 : wnm u = 9
  · rw [ifnn (z9.2 d9), d9]; rfl
  rw [if_pos (fun q => d9 (z9.1 q))]
  rw [wk_mine, h3]
  have z10 := zlc_w (v := u) (i := 10) (w := 1835626085) h1 (by decide) (by decide)
  by_cases d10 : wnm u = 10
  · rw [ifnn (z10.2 d10), d10]; rfl
  rw [if_pos (fun q => d10 (z10.1 q))]
  rw [wk_yours, h3]
  have z11 := zlc_w (v := u) (i := 11) (w := 521561010803) h1 (by decide) (by decide)
  by_cases d11 : wnm u = 11
  · rw [ifnn (z11.2 d11), d11]; rfl
  rw [if_pos (fun q => d11 (z11.1 q))]
  rw [wk_low, h3]
  have z12 := zlc_w (v := u) (i := 12) (w := 7106423) h1 (by decide) (by decide)
  by_cases d12 : wnm u = 12
  · rw [ifnn (z12.2 d12), d12]; rfl
  rw [if_pos (fun q => d12 (z12.1 q))]
  rw [wk_high, h3]
  have z13 := zlc_w (v := u) (i := 13) (w := 1751738216) h1 (by decide) (by decide)
  by_cases d13 : wnm u = 13
  · rw [ifnn (z13.2 d13), d13]; rfl
  rw [if_pos (fun q => d13 (z13.1 q))]
  rw [wk_cross, h3]
  have z14 := zlc_w (v := u) (i := 14) (w := 427121668979) h1 (by decide) (by decide)
  by_cases d14 : wnm u = 14
  · rw [ifnn (z14.2 d14), d14]; rfl
  rw [if_pos (fun q => d14 (z14.1 q))]
  rw [wk_hold, h3]
  have z15 := zlc_w (v := u) (i := 15) (w := 1752132708) h1 (by decide) (by decide)
  by_cases d15 : wnm u = 15
  · rw [ifnn (z15.2 d15), d15]; rfl
  rw [if_pos (fun q => d15 (z15.1 q))]
  rw [wk_step, h3]
  have z17 := zlc_w (v := u) (i := 17) (w := 1937007984) h1 (by decide) (by decide)
  by_cases d17 : wnm u = 17
  · rw [ifnn (z17.2 d17), d17]; rfl
  rw [if_pos (fun q => d17 (z17.1 q))]
  rw [wk_last, h3]
  have z18 := zlc_w (v := u) (i := 18) (w := 1818325876) h1 (by decide) (by decide)
  by_cases d18 : wnm u = 18
  · rw [ifnn (z18.2 d18), d18]; rfl
  rw [if_pos (fun q => d18 (z18.1 q))]
  rw [wk_pitch, h3]
  have z19 := zlc_w (v := u) (i := 19) (w := 482805572456) h1 (by decide) (by decide)
  by_cases d19 : wnm u = 19
  · rw [ifnn (z19.2 d19), d19]; rfl
  rw [if_pos (fun q => d19 (z19.1 q))]
  rw [wk_rest, h3]
  have z20 := zlc_w (v := u) (i := 20) (w := 1919251316) h1 (by decide) (by decide)
  by_cases d20 : wnm u = 20
  · rw [ifnn (z20.2 d20), d20]; rfl
  rw [if_pos (fun q => d20 (z20.1 q))]
  rw [wk_place]
  have z16 := zlc_w (v := u) (i := 16) (w := 482854658917) h1 (by decide) (by decide)
  by_cases d16 : wnm u = 16
  · rw [ifnn (z16.2 d16), d16]; rfl
  rw [if_pos (fun q => d16 (z16.1 q))]
  have e : nmI (wnm u) = -1 := nmI_no (out13 d8 d9 d10 d11 d12 d13 d14 d15 d16 d17 d18 d19 d20)
  rw [e]
def nmv2 (n : Int) : Int := if n < 8 then -1 else if n ≤ 15 then n - 8 else if n = 16 then 12 else if n ≤ 20 then n - 9 else n - 8
theorem qM_nameOf {k v : Int} {σ : Zm} (h : KK k v σ) : fM_nameOf σ = some (if k = 19 then (nm v.toNat : Int) else -1, σ) := by
  unfold fM_nameOf
  simp only [zlet]
  rcases h with ⟨u, h1, h2, h3, h4, h5⟩ | ⟨h1, h2, h3, h4⟩ | ⟨h1, h2, h3⟩
  · have hb := wnm_bd u
    have hc := wkd_c _ hb
    have hE : (if k = 19 then (nm v.toNat : Int) else -1) = nmv2 (wnm u) := by
      unfold nmv2
      by_cases c : k = 19
      · rw [if_pos c]
        have h8 : 8 ≤ wnm u := by omega
        rw [if_neg (by omega)] at h5
        rw [if_neg (by omega)]
        unfold nm
        by_cases a1 : v.toNat ≤ 7
        · rw [if_pos a1, if_pos (show wnm u ≤ 15 by omega)]; omega
        · rw [if_neg a1, if_neg (show ¬ wnm u ≤ 15 by omega)]
          by_cases a2 : v.toNat = 8
          · rw [if_pos a2, if_pos (show wnm u = 16 by omega)]; rfl
          · rw [if_neg a2, if_neg (show ¬ wnm u = 16 by omega)]
            by_cases a3 : v.toNat ≤ 12
            · rw [if_pos a3, if_pos (show wnm u ≤ 20 by omega)]; omega
            · rw [if_neg a3, if_neg (show ¬ wnm u ≤ 20 by omega)]; omega
      · rw [if_neg c, if_pos (by omega)]
    have hI : zw (nmI (wnm u)) = nmI (wnm u) := by
      have : -1 ≤ nmI (wnm u) ∧ nmI (wnm u) ≤ 12 := by
        unfold nmI
        split
        · omega
        · split
          · omega
          · split
            · omega
            · split <;> omega
      exact zwj (by omega) (by omega)
    rw [if_pos h2, zbi_eq (qM_ofVoices h1 h3), hI, hE]
    by_cases c1 : 8 ≤ wnm u ∧ wnm u ≤ 20
    · have e : nmI (wnm u) = nmv2 (wnm u) := by
        unfold nmI nmv2
        rw [if_neg (show ¬ wnm u < 8 by omega), if_neg (show ¬ wnm u < 8 by omega)]
        by_cases a1 : wnm u ≤ 15
        · rw [if_pos a1, if_pos a1]
        · rw [if_neg a1, if_neg a1]
          by_cases a2 : wnm u = 16
          · rw [if_pos a2, if_pos a2]
          · rw [if_neg a2, if_neg a2, if_pos c1.2, if_pos c1.2]
      have e2 : 0 ≤ nmv2 (wnm u) := by
        unfold nmv2
        rw [if_neg (show ¬ wnm u < 8 by omega)]
        by_cases a1 : wnm u ≤ 15
        · rw [if_pos a1]; omega
        · rw [if_neg a1]
          by_cases a2 : wnm u = 16
          · rw [if_pos a2]; omega
          · rw [if_neg a2, if_pos c1.2]; omega
      rw [e, if_neg (by omega)]
    have e : nmI (wnm u) = -1 := by
      unfold nmI
      split
      · rfl
      · rw [if_neg (by omega), if_neg (by omega), if_neg (by omega)]
    rw [e, if_pos (by decide)]

    rw [wk_number, h3]
    have z21 := zlc_w (v := u) (i := 21) (w := 121450625394034) h1 (by decide) (by decide)
    by_cases d21 : wnm u = 21
    · rw [ifnn (z21.2 d21), d21]; rfl
    rw [if_pos (fun q => d21 (z21.1 q))]
    rw [wk_ruling, h3]
    have z22 := zlc_w (v := u) (i := 22) (w := 125848655588967) h1 (by decide) (by decide)
    by_cases d22 : wnm u = 22
    · rw [ifnn (z22.2 d22), d22]; rfl
    rw [if_pos (fun q => d22 (z22.1 q))]
    rw [wk_ink, h3]
    have z23 := zlc_w (v := u) (i := 23) (w := 6909547) h1 (by decide) (by decide)
    by_cases d23 : wnm u = 23
    · rw [ifnn (z23.2 d23), d23]; rfl
    rw [if_pos (fun q => d23 (z23.1 q))]
    rw [wk_size, h3]
    have z24 := zlc_w (v := u) (i := 24) (w := 1936292453) h1 (by decide) (by decide)
    by_cases d24 : wnm u = 24
    · rw [ifnn (z24.2 d24), d24]; rfl
    rw [if_pos (fun q => d24 (z24.1 q))]
    rw [wk_number, wk_numberb, h3]
    have z25 := zlc_w (v := u) (i := 25) (w := 31091360100872802) h1 (by decide) (by decide)
    by_cases d25 : wnm u = 25
    · rw [ifnn (z25.2 d25), d25]; rfl
    rw [if_pos (fun q => d25 (z25.1 q))]
    rw [wk_ruling, wk_rulingb, h3]
    have z26 := zlc_w (v := u) (i := 26) (w := 32217255830775650) h1 (by decide) (by decide)
    by_cases d26 : wnm u = 26
    · rw [ifnn (z26.2 d26), d26]; rfl
    rw [if_pos (fun q => d26 (z26.1 q))]
    rw [wk_inkb, h3]
    have z27 := zlc_w (v := u) (i := 27) (w := 1768844130) h1 (by decide) (by decide)
    by_cases d27 : wnm u = 27
    · rw [ifnn (z27.2 d27), d27]; rfl
    rw [if_pos (fun q => d27 (z27.1 q))]
    rw [wk_sizeb]
    have z28 := zlc_w (v := u) (i := 28) (w := 495690868066) h1 (by decide) (by decide)
    by_cases d28 : wnm u = 28
    · rw [ifnn (z28.2 d28), d28]; rfl
    rw [if_pos (fun q => d28 (z28.1 q))]
    have e3 : nmv2 (wnm u) = -1 := by
      unfold nmv2
      rw [if_pos (by omega)]
    rw [e3]
  · rw [if_neg (by omega), if_neg (by omega)]
  · rw [if_neg h2, if_neg (fun z => (KSg_no h3).2.2.2.2.2.1 z)]

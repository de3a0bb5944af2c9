/-! MY OWN: the class's scan -/
def s4 (k : Nat) : Prop := k = 5 ∨ k = 6 ∨ k = 7 ∨ k = 8
def scR (f : Nat → Int) (L s : Nat) (σ0 σ' : Zm) : Prop := RS s4 σ0 σ' ∧ zrd σ' 150 5 = (tnx f L s : Int) ∧ zrd σ' 150 6 = (s : Int) ∧ zrd σ' 150 7 = tk f L s ∧ (18 ≤ tk f L s → tk f L s ≤ 20 → zrd σ' 150 8 = tvl f L s)
theorem wkd_c (n : Int) (h : n = -1 ∨ (0 ≤ n ∧ n < 29)) : (n = -1 ∧ wkd n = 22) ∨ (0 ≤ n ∧ n < 4 ∧ wkd n = 18) ∨ (n = 4 ∧ wkd n = 17) ∨ (n = 5 ∧ wkd n = 1) ∨ (n = 6 ∧ wkd n = 2) ∨ (n = 7 ∧ wkd n = 3) ∨ (8 ≤ n ∧ n < 29 ∧ wkd n = 19) := by
  unfold wkd
  split
  · omega
  · split
    · omega
    · split
      · omega
      · split <;> omega
theorem sgk_c (c : Int) : (c = 35 ∧ sgk c = 9) ∨ (c = 40 ∧ sgk c = 0) ∨ (c = 41 ∧ sgk c = 15) ∨ (c = 42 ∧ sgk c = 12) ∨ (c = 43 ∧ sgk c = 10) ∨ (c = 45 ∧ sgk c = 11) ∨ (c = 47 ∧ sgk c = 13) ∨ (c = 59 ∧ sgk c = 16) ∨ (c = 60 ∧ sgk c = 4) ∨ (c = 61 ∧ sgk c = 8) ∨ (c = 62 ∧ sgk c = 6) ∨ ((c ≠ 35 ∧ c ≠ 40 ∧ c ≠ 41 ∧ c ≠ 42 ∧ c ≠ 43 ∧ c ≠ 45 ∧ c ≠ 47 ∧ c ≠ 59 ∧ c ≠ 60 ∧ c ≠ 61 ∧ c ≠ 62) ∧ sgk c = 22) := by
  by_cases h35 : c = 35
  · left; exact ⟨h35, by rw [h35]; rfl⟩
  by_cases h40 : c = 40
  · right; left; exact ⟨h40, by rw [h40]; rfl⟩
  by_cases h41 : c = 41
  · right; right; left; exact ⟨h41, by rw [h41]; rfl⟩
  by_cases h42 : c = 42
  · right; right; right; left; exact ⟨h42, by rw [h42]; rfl⟩
  by_cases h43 : c = 43
  · right; right; right; right; left; exact ⟨h43, by rw [h43]; rfl⟩
  by_cases h45 : c = 45
  · right; right; right; right; right; left; exact ⟨h45, by rw [h45]; rfl⟩
  by_cases h47 : c = 47
  · right; right; right; right; right; right; left; exact ⟨h47, by rw [h47]; rfl⟩
  by_cases h59 : c = 59
  · right; right; right; right; right; right; right; left; exact ⟨h59, by rw [h59]; rfl⟩
  by_cases h60 : c = 60
  · right; right; right; right; right; right; right; right; left; exact ⟨h60, by rw [h60]; rfl⟩
  by_cases h61 : c = 61
  · right; right; right; right; right; right; right; right; right; left; exact ⟨h61, by rw [h61]; rfl⟩
  by_cases h62 : c = 62
  · right; right; right; right; right; right; right; right; right; right; left; exact ⟨h62, by rw [h62]; rfl⟩
  right; right; right; right; right; right; right; right; right; right; right
  refine ⟨⟨h35, h40, h41, h42, h43, h45, h47, h59, h60, h61, h62⟩, ?_⟩
  unfold sgk
  rw [if_neg h35, if_neg h40, if_neg h41, if_neg h42, if_neg h43, if_neg h45, if_neg h47, if_neg h59, if_neg h60, if_neg h61, if_neg h62]
theorem qR_signKind (σ : Zm) (c : Int) : fR_signKind σ c = some (sgk c, σ) := by
  unfold fR_signKind sgk
  repeat' split
  all_goals rfl
theorem pR_scanWord_39 {f : Nat → Int} {L s : Nat} (σ0 σ : Zm) (ht : tape f L σ) (hr : RS s4 σ0 σ) (h6 : zrd σ 150 6 = (s : Int)) (hs : s < L) (hl : isl (f s) = true) (h5 : zrd σ 150 5 = (rn isl f (L - s) s : Int)) : zwp (fR_scanWord_39 σ) (fun _ σ' => scR f L s σ0 σ') := by
  have hb := rn_bd isl f (L - s) s
  have hse : s < rn isl f (L - s) s := by
    obtain ⟨d, hd⟩ : ∃ d, L - s = d + 1 := ⟨L - s - 1, by omega⟩
    have hb2 := rn_bd isl f d (s + 1)
    rw [hd]
    show s < (if isl (f s) = true then rn isl f d (s + 1) else s)
    rw [if_pos hl]
    omega
  have hw := wkd_c _ (wnm_bd (wv f s (rn isl f (L - s) s)))
  have ek : tk f L s = wkd (wnm (wv f s (rn isl f (L - s) s))) := by unfold tk; rw [if_neg (by omega), if_pos hl]
  have ev : tvl f L s = if wnm (wv f s (rn isl f (L - s) s)) < 8 then wnm (wv f s (rn isl f (L - s) s)) else wnm (wv f s (rn isl f (L - s) s)) - 8 := by unfold tvl; rw [if_pos hl]
  have en : tnx f L s = rn isl f (L - s) s := by unfold tnx; rw [if_neg (by omega), if_pos hl]
  have e7 : ∀ (v : Int) (σ' : Zm), RS s4 σ σ' → (∀ j, zrd σ' 150 j = if j = 7 then zw v else zrd σ 150 j) → zw v = wkd (wnm (wv f s (rn isl f (L - s) s))) → ¬ (18 ≤ zw v ∧ zw v ≤ 20) → zwp (some (0, σ') : Zr) (fun _ σ' => scR f L s σ0 σ') := by
    intro v σ' r1 e1 hv hn
    rw [zwp_some]
    refine ⟨hr.tr r1, by rw [e1, if_neg (by decide), h5, en], by rw [e1, if_neg (by decide), h6], by rw [e1, if_pos rfl, hv, ek], fun q1 q2 => ?_⟩
    rw [ek, ← hv] at q1 q2
    exact absurd ⟨q1, q2⟩ hn
  have e8 : ∀ (v u : Int) (σ1 σ2 : Zm), RS s4 σ σ1 → (∀ j, zrd σ1 150 j = if j = 7 then zw v else zrd σ 150 j) → RS s4 σ1 σ2 → (∀ j, zrd σ2 150 j = if j = 8 then zw u else zrd σ1 150 j) → zw v = wkd (wnm (wv f s (rn isl f (L - s) s))) → zw u = tvl f L s → zwp (some (0, σ2) : Zr) (fun _ σ' => scR f L s σ0 σ') := by
    intro v u σ1 σ2 r1 e1 r2 e2 hv hu
    rw [zwp_some]
    refine ⟨(hr.tr r1).tr r2, by rw [e2, if_neg (by decide), e1, if_neg (by decide), h5, en], by rw [e2, if_neg (by decide), e1, if_neg (by decide), h6], by rw [e2, if_neg (by decide), e1, if_pos rfl, hv, ek], fun _ _ => by rw [e2, if_pos rfl, hu]⟩
  have hS7 : s4 7 := Or.inr (Or.inr (Or.inl rfl))
  have hS8 : s4 8 := Or.inr (Or.inr (Or.inr rfl))
  unfold fR_scanWord_39
  rw [zbi_eq (qR_wordNumber σ ht h6 h5 hse (by omega) (fun j h1 h2 => rn_all isl f (L - s) s j h1 h2))]
  generalize hn : wnm (wv f s (rn isl f (L - s) s)) = n at *
  have hzn : zw n = n := zwj (by omega) (by omega)
  rw [hzn]
  rcases hw with ⟨h1, h2⟩ | ⟨h1, h1', h2⟩ | ⟨h1, h2⟩ | ⟨h1, h2⟩ | ⟨h1, h2⟩ | ⟨h1, h2⟩ | ⟨h1, h1', h2⟩
  · rw [ifnn h1]
    exact RS_st hS7 (fun σ1 r1 d1 => e7 22 σ1 r1 d1 (by rw [h2]; rfl) (by decide))
  · rw [if_pos (by omega), if_neg (by omega)]
    refine RS_st hS7 (fun σ1 r1 d1 => RS_st hS8 (fun σ2 r2 d2 => e8 18 n σ1 σ2 r1 d1 r2 d2 (by rw [h2]; rfl) ?_))
    rw [ev, if_pos (by omega)]
    exact zwj (by omega) (by omega)
  · rw [if_pos (by omega), if_pos (by omega), if_pos (by omega), ifnn h1]
    exact RS_st hS7 (fun σ1 r1 d1 => e7 17 σ1 r1 d1 (by rw [h2]; rfl) (by decide))
  · rw [if_pos (by omega), if_pos (by omega), if_pos (by omega), if_pos (by omega), ifnn h1]
    exact RS_st hS7 (fun σ1 r1 d1 => e7 1 σ1 r1 d1 (by rw [h2]; rfl) (by decide))
  · rw [if_pos (by omega), if_pos (by omega), if_pos (by omega), if_pos (by omega), if_pos (by omega), ifnn h1]
    exact RS_st hS7 (fun σ1 r1 d1 => e7 2 σ1 r1 d1 (by rw [h2]; rfl) (by decide))
  · rw [if_pos (by omega), if_pos (by omega), if_pos (by omega), if_pos (by omega), if_pos (by omega), if_pos (by omega)]
    exact RS_st hS7 (fun σ1 r1 d1 => e7 3 σ1 r1 d1 (by rw [h2]; rfl) (by decide))
  · rw [if_pos (by omega), if_pos (by omega), if_neg (by omega)]
    refine RS_st hS7 (fun σ1 r1 d1 => RS_st hS8 (fun σ2 r2 d2 => e8 19 (n - 8) σ1 σ2 r1 d1 r2 d2 (by rw [h2]; rfl) ?_))
    rw [ev, if_neg (by omega)]
    exact zwj (by omega) (by omega)
theorem pR_scanSign {f : Nat → Int} {L s : Nat} (σ0 σ : Zm) (ht : tape f L σ) (hr : RS s4 σ0 σ) (h6 : zrd σ 150 6 = (s : Int)) (hs : s < L) (hl : ¬ isl (f s) = true) (hd : ¬ isd (f s) = true) (h5 : zrd σ 150 5 = (s : Int)) : zwp (fR_scanSign σ) (fun _ σ' => scR f L s σ0 σ') := by
  have hL := ht.2.1
  have hf := ht.2.2 s hs
  have hk := sgk_c (f s)
  have hS7 : s4 7 := Or.inr (Or.inr (Or.inl rfl))
  have hS5 : s4 5 := Or.inl rfl
  have ek : tk f L s = if two f L s = true then sgk (f s) + 1 else sgk (f s) := by unfold tk; rw [if_neg (by omega), if_neg hl, if_neg hd]
  have en : tnx f L s = if two f L s = true then s + 2 else s + 1 := by unfold tnx; rw [if_neg (by omega), if_neg hl, if_neg hd]
  have hz : zw (sgk (f s)) = sgk (f s) := zwj (by omega) (by omega)
  unfold fR_scanSign
  simp only [zwp_let]
  rw [h5, zckj (by omega) (by omega), zwp_let, Int.toNat_natCast, hf.1, zbi_eq (qR_signKind σ (f s)), hz]
  refine RS_st hS7 (fun σ1 r1 e1 => ?_)
  rw [zwp_let, e1 5, if_neg (by decide), h5]
  refine RS_st hS5 (fun σ2 r2 e2 => ?_)
  have r12 := (hr.tr r1).tr r2
  have t2 := tape_RS (tape_RS ht r1 (by unfold s4; omega)) r2 (by unfold s4; omega)
  have g7 : zrd σ2 150 7 = sgk (f s) := by rw [e2, if_neg (by decide), e1, if_pos rfl, hz]
  have g5 : zrd σ2 150 5 = ((s + 1 : Nat) : Int) := by rw [e2, if_pos rfl, zwj (by omega) (by omega)]; omega
  have g6 : zrd σ2 150 6 = (s : Int) := by rw [e2, if_neg (by decide), e1, if_neg (by decide), h6]
  have one : two f L s = false → sgk (f s) ≤ 16 ∨ sgk (f s) = 22 → zwp (some (0, σ2) : Zr) (fun _ σ' => scR f L s σ0 σ') := by
    intro h2 _
    rw [zwp_some]
    rw [h2, if_neg (by decide)] at ek en
    exact ⟨r12, by rw [en]; exact g5, g6, by rw [ek]; exact g7, fun q1 q2 => by rw [ek] at q1 q2; omega⟩
  have go : f s = 60 ∨ f s = 62 → zwp (fR_scanSign_43 σ2) (fun _ σ' => scR f L s σ0 σ') := by
    intro hc
    unfold fR_scanSign_43
    simp only [zwp_let]
    rw [g5, t2.1]
    by_cases c1 : s + 1 < L
    · rw [if_neg (by omega), zwp_let, zckj (by omega) (by omega), zwp_let, Int.toNat_natCast, (t2.2.2 (s + 1) c1).1]
      by_cases c2 : f (s + 1) = 61
      · have h2 : two f L s = true := by unfold two; simp [c1, c2]; omega
        rw [h2, if_pos rfl] at ek en
        rw [ifnn c2, zwp_let, g7]
        have fin : ∀ (v : Int), zw v = sgk (f s) + 1 → sgk (f s) ≤ 6 → zwp (zlet (zst σ2 150 7 v) fun σ14 => zlet (zrd σ14 150 5) fun v15 => zlet (zst σ14 150 5 (v15 + 1)) fun σ16 => some (0, σ16)) (fun _ σ' => scR f L s σ0 σ') := by
          intro v hv hb
          refine RS_st hS7 (fun σ3 r3 e3 => ?_)
          rw [zwp_let, e3 5, if_neg (by decide), g5]
          refine RS_st hS5 (fun σ4 r4 e4 => ?_)
          rw [zwp_some]
          refine ⟨(r12.tr r3).tr r4, ?_, ?_, ?_, fun q1 q2 => by rw [ek] at q1 q2; omega⟩
          · rw [e4, if_pos rfl, zwj (by omega) (by omega), en]; omega
          · rw [e4, if_neg (by decide), e3, if_neg (by decide), g6]
          · rw [e4, if_neg (by decide), e3, if_pos rfl, hv, ek]
        rcases hc with hc | hc
        · have hs4 : sgk (f s) = 4 := by omega
          rw [ifnn hs4]
          exact fin 5 (by rw [hs4]; rfl) (by omega)
        · have hs4 : sgk (f s) = 6 := by omega
          rw [if_pos (by omega)]
          exact fin 7 (by rw [hs4]; rfl) (by omega)
      · rw [if_pos c2]
        exact one (by unfold two; simp [c2]) (by omega)
    · rw [if_pos (by omega)]
      exact one (by unfold two; simp [c1]) (by omega)
  simp only [zwp_let]
  rw [g7]
  by_cases c1 : f s = 60
  · rw [if_pos (by omega)]
    exact go (Or.inl c1)
  · rw [if_neg (by omega), zwp_let]
    by_cases c2 : f s = 62
    · rw [if_neg (by omega)]
      exact go (Or.inr c2)
    · rw [if_pos (by omega)]
      exact one (by unfold two; simp [c1, c2]) (by omega)
theorem qR_scan {f : Nat → Int} {L p : Nat} (σ : Zm) (ht : tape f L σ) (h5 : zrd σ 150 5 = (p : Int)) (hp : p ≤ L) : zwp (fR_scan σ) (fun _ σ' => scR f L (ts f L p) σ σ') := by
  have hL := ht.2.1
  have hS5 : s4 5 := Or.inl rfl
  have hS6 : s4 6 := Or.inr (Or.inl rfl)
  have hS7 : s4 7 := Or.inr (Or.inr (Or.inl rfl))
  have hS8 : s4 8 := Or.inr (Or.inr (Or.inr rfl))
  have hts := rn_bd isw f (L - p) p
  unfold fR_scan
  refine pR_scan_0 σ ht _ _ (ts f L p) (fun σ1 r1 g5 => ?_) (L - p) 5000 p σ (by omega) (by omega) rfl RS.rf h5
  have hsL : ts f L p ≤ L := by unfold ts; omega
  generalize ts f L p = s at *
  have r1' : RS s4 σ σ1 := r1.mono (fun q z => Or.inl z)
  have t1 := tape_RS ht r1' (by unfold s4; omega)
  unfold fR_scan_52
  rw [zwp_let, g5]
  refine RS_st hS6 (fun σ2 r2 e2 => ?_)
  have t2 := tape_RS t1 r2 (by unfold s4; omega)
  have r12 := r1'.tr r2
  have k5 : zrd σ2 150 5 = (s : Int) := by rw [e2, if_neg (by decide), g5]
  have k6 : zrd σ2 150 6 = (s : Int) := by rw [e2, if_pos rfl, zwj (by omega) (by omega)]
  simp only [zwp_let]
  rw [k5, t2.1]
  by_cases c1 : s < L
  · have hf := t2.2.2 s c1
    rw [if_pos (by omega), zwp_let, zckj (by omega) (by omega), zwp_let, Int.toNat_natCast, hf.1, zbi_eq (qR_isLetter σ2 (f s)), zw_b2]
    by_cases c2 : isl (f s) = true
    · rw [if_pos c2, if_neg (by decide), zwp_bv]
      unfold fR_scanWord
      refine pR_scanWord_0 σ2 t2 _ _ (rn isl f (L - s) s) (fun σ3 r3 g3 => ?_) (L - s) 5000 s σ2 (by omega) (by omega) rfl RS.rf k5
      have r3' : RS s4 σ2 σ3 := r3.mono (fun q z => Or.inl z)
      refine zwp_mono (pR_scanWord_39 σ σ3 (tape_RS t2 r3' (by unfold s4; omega)) (r12.tr r3') ?_ c1 c2 g3) (fun _ σ4 h => ?_)
      · rw [r3.2 6 (by unfold s5; omega), k6]
      · rw [zwp_some]; exact h
    · rw [if_neg c2, if_pos rfl, zwp_let, k5, zckj (by omega) (by omega), zwp_let, Int.toNat_natCast, hf.1, zbi_eq (qR_isDigit σ2 (f s)), zw_b2]
      by_cases c3 : isd (f s) = true
      · rw [if_pos c3, if_neg (by decide), zwp_bv]
        unfold fR_scanDigits
        refine RS_st hS7 (fun σ3 r3 e3 => ?_)
        refine RS_st hS8 (fun σ4 r4 e4 => ?_)
        have t4 := tape_RS (tape_RS t2 r3 (by unfold s4; omega)) r4 (by unfold s4; omega)
        refine zwp_mono (pR_scanDigits_11 (s := s) σ4 t4 (rn isd f (L - s) s) (L - s) 5000 0 σ4 (by omega) (by omega) rfl (fun j hj => by omega) RS.rf ?_ ?_) (fun _ σ5 ⟨q1, q2, q3⟩ => ?_)
        · rw [e4, if_neg (by decide), e3, if_neg (by decide), k5, Nat.add_zero]
        · rw [e4, if_pos rfl]; rfl
        · rw [zwp_some]
          have ek : tk f L s = 20 := by unfold tk; rw [if_neg (by omega), if_neg c2, if_pos c3]
          have q1' : RS s4 σ4 σ5 := q1.mono (fun q z => by unfold s58 at z; unfold s4; omega)
          refine ⟨((r12.tr r3).tr r4).tr q1', ?_, ?_, ?_, fun _ _ => ?_⟩
          · rw [q2]
            unfold tnx
            rw [if_neg (by omega), if_neg c2, if_pos c3]
          · rw [q1.2 6 (by unfold s58; omega), e4, if_neg (by decide), e3, if_neg (by decide), k6]
          · rw [q1.2 7 (by unfold s58; omega), e4, if_neg (by decide), e3, if_pos rfl, ek]; rfl
          · rw [q3]
            unfold tvl
            rw [if_neg c2]
      · rw [if_neg c3, if_pos rfl, zwp_bv]
        refine zwp_mono (pR_scanSign σ σ2 t2 r12 k6 c1 c2 c3 k5) (fun _ σ4 h => ?_)
        rw [zwp_some]; exact h
  · rw [if_neg (by omega)]
    refine RS_st hS7 (fun σ3 r3 e3 => ?_)
    rw [zwp_some]
    have ek : tk f L s = 21 := by unfold tk; rw [if_pos (by omega)]
    refine ⟨r12.tr r3, ?_, ?_, ?_, fun q1 q2 => by rw [ek] at q1 q2; omega⟩
    · rw [e3, if_neg (by decide), k5]
      unfold tnx
      rw [if_pos (by omega)]
    · rw [e3, if_neg (by decide), k6]
    · rw [e3, if_pos rfl, ek]; rfl

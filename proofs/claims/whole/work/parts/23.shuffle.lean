/-! MY OWN: the class's shuffle -/
/-- how many notes begin ahead of t -/
def nbg (a : Ln) : Nat → Nat
  | 0 => 0
  | t + 1 => if (a t).1 = 1 then nbg a t + 1 else nbg a t
def chg (a : Ln) : Nat → List Int
  | 0 => []
  | t + 1 => if (a t).1 = 1 ∧ 0 ≤ lna a t then chg a t ++ [(a t).2 - (a (lna a t).toNat).2] else chg a t
def lnum (l : List Int) : Nat → Int := fun j => l.getD j 0
def swp (c : Nat → Int) (i k : Nat) : Nat → Int := fun j => if j = k then c i else if j = i then c k else c j
def shf : Nat → Nat → (Nat → Int) → (Nat → Int)
  | 0, _, c => c
  | i + 1, x, c => shf i ((x * 131 + 17) % 30013) (swp c (i + 1) (x % (i + 2)))
def ssh (a : Ln) (c : Nat → Int) : Nat → Nat × Int × Int
  | 0 => (0, 0, 0)
  | t + 1 => if (a t).1 = 1 ∧ (ssh a c t).2.2 = 0 then ((ssh a c t).1, (a t).2, 1) else if (a t).1 = 1 then ((ssh a c t).1 + 1, (ssh a c t).2.1 + c (ssh a c t).1, (ssh a c t).2.2) else ssh a c t
def shl (a : Ln) (c : Nat → Int) : Ln := fun t => if t < 12 ∧ (a t).1 ≠ 0 then ((a t).1, (ssh a c (t + 1)).2.1) else (0, 0)
def shs (a : Ln) (seed : Nat) : Ln := shl a (shf ((chg a 12).length - 1) seed (lnum (chg a 12)))
theorem lna_nbg (a : Ln) : ∀ t, 0 ≤ lna a t ↔ 1 ≤ nbg a t
  | 0 => ⟨fun h => absurd (show (0 : Int) ≤ -1 from h) (by decide), fun h => absurd (show 1 ≤ 0 from h) (by decide)⟩
  | t + 1 => by
    have ih := lna_nbg a t
    show 0 ≤ (if (a t).1 = 1 then (t : Int) else pna (fun t => (a t).1) t) ↔ 1 ≤ (if (a t).1 = 1 then nbg a t + 1 else nbg a t)
    by_cases c : (a t).1 = 1
    · rw [if_pos c, if_pos c]; omega
    · rw [if_neg c, if_neg c]; exact ih
theorem chg_len (a : Ln) : ∀ t, (chg a t).length = nbg a t - 1
  | 0 => rfl
  | t + 1 => by
    have ih := chg_len a t
    have h := lna_nbg a t
    unfold chg nbg
    by_cases c : (a t).1 = 1
    · by_cases c2 : 0 ≤ lna a t
      · rw [if_pos ⟨c, c2⟩, if_pos c, List.length_append, ih]
        have := h.mp c2
        simp only [List.length_cons, List.length_nil]
        omega
      · rw [if_neg (fun q => c2 q.2), if_pos c, ih]
        omega
    · rw [if_neg (fun q => c q.1), if_neg c, ih]
theorem nbg_le (a : Ln) : ∀ t, nbg a t ≤ t
  | 0 => Nat.le_refl _
  | t + 1 => by
    have := nbg_le a t
    unfold nbg
    split <;> omega
theorem nbg_mono (a : Ln) : ∀ t d, nbg a t ≤ nbg a (t + d)
  | t, 0 => Nat.le_refl _
  | t, d + 1 => by
    have := nbg_mono a t d
    show nbg a t ≤ (if (a (t + d)).1 = 1 then nbg a (t + d) + 1 else nbg a (t + d))
    split <;> omega
theorem ssh_1 (a : Ln) (c : Nat → Int) : ∀ t, ((ssh a c t).2.2 = 0 ↔ nbg a t = 0) ∧ ((ssh a c t).2.2 = 0 ∨ (ssh a c t).2.2 = 1) ∧ (ssh a c t).1 = nbg a t - 1
  | 0 => ⟨⟨fun _ => rfl, fun _ => rfl⟩, Or.inl rfl, rfl⟩
  | t + 1 => by
    obtain ⟨h1, h2, h3⟩ := ssh_1 a c t
    unfold ssh nbg
    grind
def cbd (c : Nat → Int) : Prop := ∀ j, -40 ≤ c j ∧ c j ≤ 40
theorem swp_bd {c : Nat → Int} (h : cbd c) (i k : Nat) : cbd (swp c i k) := by
  intro j
  have h1 := h i
  have h2 := h k
  have h3 := h j
  unfold swp
  split
  · exact h1
  · split
    · exact h2
    · exact h3
theorem shf_bd : ∀ (i x : Nat) (c : Nat → Int), cbd c → cbd (shf i x c)
  | 0, _, _, h => h
  | i + 1, x, c, h => shf_bd i _ _ (swp_bd h _ _)
def l20 (a : Ln) : Prop := ∀ t, -20 ≤ (a t).2 ∧ (a t).2 ≤ 20
theorem chg_bd {a : Ln} (ha : l20 a) : ∀ t, ∀ x ∈ chg a t, -40 ≤ x ∧ x ≤ 40
  | 0, x, h => by cases h
  | t + 1, x, h => by
    unfold chg at h
    have h1 := ha t
    have h2 := ha (lna a t).toNat
    split at h
    · rcases List.mem_append.mp h with h | h
      · exact chg_bd ha t x h
      · simp only [List.mem_singleton] at h
        omega
    · exact chg_bd ha t x h
theorem lnum_bd {a : Ln} (ha : l20 a) (t : Nat) : cbd (lnum (chg a t)) := by
  intro j
  unfold lnum
  by_cases c : j < (chg a t).length
  · rw [List.getD_eq_getElem?_getD, List.getElem?_eq_getElem c]
    exact chg_bd ha t _ (List.getElem_mem c)
  · rw [List.getD_eq_getElem?_getD, List.getElem?_eq_none (by omega)]
    simp
theorem ssh_bd {a : Ln} (ha : l20 a) {c : Nat → Int} (hc : cbd c) : ∀ t : Nat, -20 - 40 * (t : Int) ≤ (ssh a c t).2.1 ∧ (ssh a c t).2.1 ≤ 20 + 40 * (t : Int)
  | 0 => by simp [ssh]
  | t + 1 => by
    have ih := ssh_bd ha hc t
    have h1 := ha t
    have h2 := hc (ssh a c t).1
    unfold ssh
    split
    · simp only []; omega
    · split
      · simp only []; omega
      · omega
theorem shl_lss {a : Ln} (ha : l20 a) {c : Nat → Int} (hc : cbd c) : lss (shl a c) := by
  intro t
  unfold shl
  have := ssh_bd ha hc (t + 1)
  split
  · simp only []; omega
  · simp
theorem zxor_nn {a b : Int} (ha : 0 ≤ a ∧ a < 2147483648) (hb : 0 ≤ b ∧ b < 2147483648) : 0 ≤ zxor a b := by
  have m : ∀ x : Int, 0 ≤ x ∧ x < 2147483648 → (zI x).toBitVec.msb = false := by
    intro x hx
    rw [BitVec.msb_eq_toInt]
    have : (zI x).toBitVec.toInt = x := zw_id (by omega) (by omega)
    rw [this]
    simp
    omega
  have h : ((zI a ^^^ zI b).toBitVec).msb = false := by
    rw [Int32.toBitVec_xor, BitVec.msb_xor, m a ha, m b hb]
    rfl
  rw [BitVec.msb_eq_toInt] at h
  have h2 : ¬ (zI a ^^^ zI b).toBitVec.toInt < 0 := by simpa using h
  show 0 ≤ (zI a ^^^ zI b).toBitVec.toInt
  omega
theorem qJ9_floorMod (σ : Zm) (x n : Nat) (hx : x < 2147483648) (hn : 1 ≤ n ∧ n < 2147483648) : fJ9_floorMod_7cf53 σ (x : Int) (n : Int) = some (((x % n : Nat) : Int), σ) := by
  have h1 : x % n ≤ x := Nat.mod_le _ _
  unfold fJ9_floorMod_7cf53 zdv
  rw [if_neg (by omega)]
  dsimp only [zlet]
  rw [show Int.tmod (x : Int) (n : Int) = ((x % n : Nat) : Int) from rfl, zwj (by omega) (by omega), if_pos (zxor_nn (by omega) (by omega))]
def oFs (q : Nat) : Prop := q = 172 ∨ q = 173 ∨ q = 174
theorem pF_shuffle_13 {o : Nat} {a : Ln} (σ0 : Zm) (ho : sok o a σ0) (ho2 : o ≠ 171) (ha : l20 a) (x : Int) (P : Int → Zm → Prop) (K : Int → Int → Zm → Zr) (hK : ∀ σ', zfo (oO 174) σ0 σ' → (∀ j, j < (chg a 12).length → zrd σ' 174 j = lnum (chg a 12) j) → zwp (K x ((chg a 12).length : Int) σ') P) : ∀ (d m t : Nat) (σ : Zm), d < m → t + d = 12 → zfo (oO 174) σ0 σ → (∀ j, j < (chg a t).length → zrd σ 174 j = lnum (chg a t) j) → zwp (fF_shuffle_13 m o x ((chg a t).length : Int) (t : Int) σ K) P
  | 0, m + 1, t, σ, _, ht, hf, hv => by
    rw [fF_shuffle_13]
    simp only [zwp_let]
    rw [if_pos (by omega)]
    have : t = 12 := by omega
    subst this
    exact hK σ hf hv
  | d + 1, m + 1, t, σ, hm, ht, hf, hv => by
    have hl := chg_len a t
    have hn := nbg_le a t
    have o1 := ho.2.1
    have z1 := ho.1.1
    have z2 := ho.1.2
    have b1 := ha t
    have b2 := ha (lna a t).toNat
    have hb := chg_bd ha (t + 1)
    obtain ⟨n1, n2, n3⟩ := lna_lt a t
    have ela : ln 12 σ o = a := by rw [ln_fo hf (oO_ne (by omega)) (oO_ne (by omega))]; exact ho.2.2.1
    have k1 : (a t).1 = zrd σ (o + 2) t := by rw [← ela]; exact ln_1 (by omega)
    have pv : ∀ x : Nat, x < 12 → (a x).1 = 1 → zrd σ (o + 1) x = (a x).2 := by
      intro x hx h
      rw [← ela] at h ⊢
      rw [ln_1 hx] at h
      exact (ln_2 hx (by rw [h]; decide)).symm
    have hst : chg a (t + 1) = if (a t).1 = 1 ∧ 0 ≤ lna a t then chg a t ++ [(a t).2 - (a (lna a t).toNat).2] else chg a t := rfl
    have ez : zw ((t : Int) + 1) = ((t + 1 : Nat) : Int) := zwj (by omega) (by omega)
    rw [fF_shuffle_13]
    simp only [zwp_let]
    rw [if_neg (by omega), zwp_bi, qL_noteAhead ho.1 (by omega) σ _ (by omega), zwp_some, ela, Int.toNat_natCast, zwj (a := lna a t) (by omega) (by omega), zckj (by omega) (by omega), zwp_let, ← k1, ez]
    by_cases c1 : (a t).1 = 1
    · rw [ifnn c1]
      by_cases c2 : 0 ≤ lna a t
      · rw [if_neg (by omega), if_neg (by omega), zckj (by omega) (by omega), zwp_let, zckj (by omega) (by omega), zwp_let, zckj (by omega) (by omega), zwp_let, pv t (by omega) c1, pv _ (by omega) (n3 c2), Int.toNat_natCast]
        rw [if_pos ⟨c1, c2⟩] at hst
        have hl2 : (chg a (t + 1)).length = (chg a t).length + 1 := by rw [hst]; simp
        rw [show zw (((chg a t).length : Int) + 1) = ((chg a (t + 1)).length : Int) by rw [hl2]; exact zwj (by omega) (by omega)]
        refine pF_shuffle_13 σ0 ho ho2 ha x P K hK d m (t + 1) _ (by omega) (by omega) hf.st1 (fun j hj => ?_)
        rw [zrd_st]
        by_cases c3 : j = (chg a t).length
        · rw [if_pos ⟨rfl, c3⟩, hst, c3, zwj (by omega) (by omega)]
          unfold lnum
          simp
        · rw [if_neg (fun q => c3 q.2), hv j (by omega), hst]
          unfold lnum
          rw [List.getD_eq_getElem?_getD, List.getD_eq_getElem?_getD, List.getElem?_append_left (by omega)]
      · rw [if_pos (by omega)]
        rw [if_neg (fun q => c2 q.2)] at hst
        rw [← hst] at hv ⊢
        exact pF_shuffle_13 σ0 ho ho2 ha x P K hK d m (t + 1) σ (by omega) (by omega) hf hv
    · rw [if_pos c1]
      rw [if_neg (fun q => c1 q.1)] at hst
      rw [← hst] at hv ⊢
      exact pF_shuffle_13 σ0 ho ho2 ha x P K hK d m (t + 1) σ (by omega) (by omega) hf hv
theorem pF_singChanges_10 {a : Ln} (ha : l20 a) {c : Nat → Int} (hc : cbd c) (σ0 : Zm) (hl : ln 12 σ0 171 = a) (n : Nat) (hn : n = nbg a 12 - 1) (hn2 : n ≤ 11) (hcv : ∀ j, j < n → zrd σ0 174 j = c j) : ∀ (d m t : Nat) (σ : Zm), d < m → t + d = 12 → zfo (oO 172) σ0 σ → ln 12 σ 171 = (fun x => if x < t then shl a c x else a x) → zwp (fF_singChanges_10 m (n : Int) ((ssh a c t).1 : Int) (ssh a c t).2.1 (ssh a c t).2.2 (t : Int) σ) (fun _ σ' => zfo (oO 172) σ0 σ' ∧ ln 12 σ' 171 = shl a c)
  | 0, m + 1, t, σ, _, ht, hf, hv => by
    rw [fF_singChanges_10]
    simp only [zwp_let]
    rw [if_pos (by omega), zwp_some]
    refine ⟨hf, ?_⟩
    rw [hv]
    funext x
    by_cases c1 : x < t
    · rw [if_pos c1]
    · rw [if_neg c1]
      have : ln 12 σ0 171 x = (0, 0) := ln_out (by omega)
      rw [hl] at this
      rw [this]
      unfold shl
      rw [if_neg (by omega)]
  | d + 1, m + 1, t, σ, hm, ht, hf, hv => by
    have ha1 := ha t
    have hb1 := ssh_bd ha hc t
    have hb2 := ssh_bd ha hc (t + 1)
    obtain ⟨s1, s2, s3⟩ := ssh_1 a c t
    have hnl := nbg_le a t
    have hkd : ∀ j, zrd σ 173 j = zrd σ0 173 j := fun j => hf.rd (oO_ne (by omega)) j
    have k1 : (a t).1 = zrd σ 173 t := by rw [hkd, ← hl]; exact ln_1 (by omega)
    have ez : zw ((t : Int) + 1) = ((t + 1 : Nat) : Int) := zwj (by omega) (by omega)
    have e3 : ln 12 σ 171 t = a t := by rw [hv]; simp
    have hst : ssh a c (t + 1) = if (a t).1 = 1 ∧ (ssh a c t).2.2 = 0 then ((ssh a c t).1, (a t).2, 1) else if (a t).1 = 1 then ((ssh a c t).1 + 1, (ssh a c t).2.1 + c (ssh a c t).1, (ssh a c t).2.2) else ssh a c t := rfl
    have f93 : zwp (fF_singChanges_93 (fun x1 x2 x3 x4 x5 σ => fF_singChanges_10 m x1 x2 x3 x4 x5 σ) (n : Int) ((ssh a c (t + 1)).1 : Int) (ssh a c (t + 1)).2.1 (ssh a c (t + 1)).2.2 (t : Int) σ) (fun _ σ' => zfo (oO 172) σ0 σ' ∧ ln 12 σ' 171 = shl a c) := by
      unfold fF_singChanges_93
      rw [zckj (by omega) (by omega), zwp_let, Int.toNat_natCast, ← k1, ez]
      by_cases c1 : (a t).1 = 0
      · rw [if_pos c1]
        refine pF_singChanges_10 ha hc σ0 hl n hn hn2 hcv d m (t + 1) σ (by omega) (by omega) hf ?_
        rw [hv]
        funext x
        have e4 : ln 12 σ0 171 t = (0, 0) := ln_0 (by rw [hl]; exact c1)
        rw [hl] at e4
        unfold shl
        grind
      · rw [if_neg c1, zckj (by omega) (by omega), zwp_let]
        refine pF_singChanges_10 ha hc σ0 hl n hn hn2 hcv d m (t + 1) _ (by omega) (by omega) hf.st1 ?_
        funext x
        have e5 := congrFun hv x
        have hw : zw (ssh a c (t + 1)).2.1 = (ssh a c (t + 1)).2.1 := zwj (by omega) (by omega)
        unfold ln at e5 ⊢
        unfold shl at e5 ⊢
        rw [zrd_st, zrd_st, hw, if_neg (show ¬ (171 + 2 = 172 ∧ x = t) by omega)]
        grind
    rw [fF_singChanges_10]
    simp only [zwp_let]
    rw [if_neg (by omega), zckj (by omega) (by omega), zwp_let, Int.toNat_natCast, ← k1]
    by_cases c1 : (a t).1 = 1
    · rw [ifnn c1]
      by_cases c2 : (ssh a c t).2.2 = 0
      · rw [ifnn c2, zckj (by omega) (by omega), zwp_let]
        rw [if_pos ⟨c1, c2⟩] at hst
        have ep : zrd σ 172 t = (a t).2 := by
          rw [← e3]
          exact (ln_2 (by omega) (by rw [← k1, c1]; decide)).symm
        rw [hst] at f93
        rw [ep]
        exact f93
      · rw [if_pos c2]
        unfold fF_singChanges_53
        rw [if_neg (fun q => c2 q.2), if_pos c1] at hst
        have hmo := nbg_mono a (t + 1) (11 - t)
        have hn1 : nbg a (t + 1) = nbg a t + 1 := by
          show (if (a t).1 = 1 then nbg a t + 1 else nbg a t) = _
          rw [if_pos c1]
        rw [show t + 1 + (11 - t) = 12 by omega] at hmo
        have hne : nbg a t ≠ 0 := fun q => c2 (s1.mpr q)
        rw [zckj (by omega) (by omega), zwp_let, Int.toNat_natCast, ← k1, ifnn c1, if_neg (by omega), if_neg (by omega), zckj (by omega) (by omega), zwp_let, zwp_let, Int.toNat_natCast, hf.rd (oO_ne (by omega)), hcv _ (by omega)]
        rw [hst] at f93
        have hcb := hc (ssh a c t).1
        rw [zwj (a := (ssh a c t).2.1 + c (ssh a c t).1) (by omega) (by omega), show zw (((ssh a c t).1 : Int) + 1) = (((ssh a c t).1 + 1 : Nat) : Int) from zwj (by omega) (by omega)]
        exact f93
    · rw [if_pos c1]
      unfold fF_singChanges_53
      rw [if_neg (fun q => c1 q.1), if_neg c1] at hst
      rw [zckj (by omega) (by omega), zwp_let, Int.toNat_natCast, ← k1, if_pos c1]
      rw [hst] at f93
      exact f93
theorem pF_shuffle_91 {a : Ln} (ha : l20 a) (σ0 : Zm) (hl : ln 12 σ0 171 = a) (n : Nat) (hn : n = nbg a 12 - 1) (hn2 : n ≤ 11) : ∀ (i m x : Nat) (c : Nat → Int) (σ : Zm), i < m → (i < n ∨ (i = 0 ∧ n = 0)) → x ≤ 60000 → cbd c → zfo (oO 174) σ0 σ → (∀ j, j < n → zrd σ 174 j = c j) → zwp (fF_shuffle_91 m (n : Int) (x : Int) (i : Int) σ) (fun _ σ' => zfo oFs σ0 σ' ∧ ln 12 σ' 171 = shl a (shf i x c))
  | 0, m + 1, x, c, σ, _, _, hx, hc, hf, hv => by
    rw [fF_shuffle_91]
    simp only [zwp_let]
    rw [if_pos (by omega), zwp_bv]
    unfold fF_singChanges
    have hl1 : ln 12 σ 171 = a := by rw [ln_fo hf (oO_ne (by omega)) (oO_ne (by omega)), hl]
    refine zwp_mono (pF_singChanges_10 ha hc σ hl1 n hn hn2 hv 12 5000 0 σ (by omega) (by omega) zfo.rf ?_) (fun r σ' ⟨g1, g2⟩ => ?_)
    · rw [hl1]
      funext t
      rw [if_neg (by omega)]
    · rw [zwp_some]
      refine ⟨(hf.mono (fun q h => ?_)).tr (g1.mono (fun q h => ?_)), g2⟩
      · unfold oO at h; unfold oFs; omega
      · unfold oO at h; unfold oFs; omega
  | i + 1, m + 1, x, c, σ, hm, hi, hx, hc, hf, hv => by
    have hk : x % (i + 2) < i + 2 := Nat.mod_lt _ (by omega)
    have c1 := hc (i + 1)
    have c2 := hc (x % (i + 2))
    rw [fF_shuffle_91]
    simp only [zwp_let]
    rw [if_neg (by omega), show zw (((i + 1 : Nat) : Int) + 1) = ((i + 2 : Nat) : Int) from zwj (by omega) (by omega), zwp_bi, qJ9_floorMod σ x (i + 2) (by omega) (by omega), zwp_some, zwj (a := ((x % (i + 2) : Nat) : Int)) (by omega) (by omega)]
    rw [zckj (by omega) (by omega), zwp_let, zckj (by omega) (by omega), zwp_let, zckj (by omega) (by omega), zwp_let, zckj (by omega) (by omega), zwp_let, zwp_let, Int.toNat_natCast, Int.toNat_natCast, hv _ (by omega), hv _ (by omega)]
    rw [show zw (((i + 1 : Nat) : Int) + (-1)) = (i : Int) by rw [zwj (by omega) (by omega)]; omega, show zw ((x : Int) * 131 + 17) = ((x * 131 + 17 : Nat) : Int) from zwj (by omega) (by omega), show Int.tmod ((x * 131 + 17 : Nat) : Int) 30013 = (((x * 131 + 17) % 30013 : Nat) : Int) from rfl, zwj (a := (((x * 131 + 17) % 30013 : Nat) : Int)) (by omega) (by omega)]
    refine pF_shuffle_91 ha σ0 hl n hn hn2 i m ((x * 131 + 17) % 30013) (swp c (i + 1) (x % (i + 2))) _ (by omega) (by omega) (by omega) (swp_bd hc _ _) hf.st1.st1 (fun j hj => ?_)
    simp only [zrd_st]
    rw [zwj (by omega) (by omega), zwj (by omega) (by omega), hv j hj]
    unfold swp
    grind
theorem qF_shuffle {o : Nat} {a : Ln} (σ : Zm) (ho : sok o a σ) (ho2 : o ≠ 171) (ha : l20 a) (seed : Nat) (hs : seed ≤ 60000) : zwp (fF_shuffle σ o (seed : Int)) (fun _ σ' => zfo oFs σ σ' ∧ sok 171 (shs a seed) σ') := by
  have o1 := ho.2.1
  have hl := chg_len a 12
  have hn := nbg_le a 12
  unfold fF_shuffle
  rw [zwp_bv]
  refine zwp_mono (qL_take zli_171 ho.1 (by omega) σ) (fun r σ1 ⟨f1, l1, _⟩ => ?_)
  rw [ho.2.2.1] at l1
  have ho1 : sok o a σ1 := sok_fo ho f1 (by unfold oD; omega) (by unfold oD; omega)
  refine pF_shuffle_13 σ1 ho1 ho2 ha (seed : Int) _ _ (fun σ2 f2 v2 => ?_) 12 5000 0 σ1 (by omega) (by omega) zfo.rf (fun j hj => absurd hj (by simp [chg]))
  simp only [zwp_let]
  have hl2 : ln 12 σ2 171 = a := by rw [ln_fo f2 (oO_ne (by omega)) (oO_ne (by omega)), l1]
  by_cases c : (chg a 12).length = 0
  · rw [c, show zw (((0 : Nat) : Int) - 1) = -1 by decide, fF_shuffle_91]
    simp only [zwp_let]
    rw [if_pos (by decide), zwp_bv]
    unfold fF_singChanges
    refine zwp_mono (pF_singChanges_10 ha (c := lnum (chg a 12)) (lnum_bd ha 12) σ2 hl2 0 (by omega) (by omega) (fun j hj => by omega) 12 5000 0 σ2 (by omega) (by omega) zfo.rf ?_) (fun r σ' ⟨g1, g2⟩ => ?_)
    · rw [hl2]
      funext t
      rw [if_neg (by omega)]
    · rw [zwp_some]
      refine ⟨(f1.mono (fun q h => ?_)).tr ((f2.mono (fun q h => ?_)).tr (g1.mono (fun q h => ?_))), zli_171, Or.inr rfl, ?_, ?_⟩
      · unfold oD at h; unfold oFs; omega
      · unfold oO at h; unfold oFs; omega
      · unfold oO at h; unfold oFs; omega
      · rw [g2]; unfold shs; rw [c]; rfl
      · unfold shs; rw [c]; exact shl_lss ha (lnum_bd ha 12)
  · rw [show zw (((chg a 12).length : Int) - 1) = (((chg a 12).length - 1 : Nat) : Int) by rw [zwj (by omega) (by omega)]; omega]
    refine zwp_mono (pF_shuffle_91 ha σ2 hl2 (chg a 12).length hl (by omega) ((chg a 12).length - 1) 5000 seed (lnum (chg a 12)) σ2 (by omega) (by omega) hs (lnum_bd ha 12) zfo.rf v2) (fun r σ' ⟨g1, g2⟩ => ?_)
    refine ⟨(f1.mono (fun q h => ?_)).tr ((f2.mono (fun q h => ?_)).tr g1), zli_171, Or.inr rfl, g2, shl_lss ha (shf_bd _ _ _ (lnum_bd ha 12))⟩
    · unfold oD at h; unfold oFs; omega
    · unfold oO at h; unfold oFs; omega

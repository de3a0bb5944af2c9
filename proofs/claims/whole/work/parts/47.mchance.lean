/-! MY OWN: the reference's chance: changes, shuffle -/
theorem md_b {a : Ln} {b : Nat} (ha : lss a) (hk : ∀ t, (a t).1 = 0 ∨ (a t).1 = 1 ∨ (a t).1 = 2) : ((a b).1 = 0 → md (a b) = -1000) ∧ ((a b).1 = 1 → md (a b) = (a b).2 ∧ -900 ≤ md (a b) ∧ md (a b) ≤ 900) ∧ ((a b).1 = 2 → md (a b) = (a b).2 + 100000 ∧ 99000 ≤ md (a b) ∧ md (a b) ≤ 101000) := by
  have h1 := ha b
  unfold md
  refine ⟨fun q => by rw [if_pos q], fun q => ?_, fun q => ?_⟩
  · rw [if_neg (by omega), if_pos q]; omega
  · rw [if_neg (by omega), if_neg (by omega)]; omega
theorem pM_takeChanges_6 {a : Ln} (ha : LSb a) (h20 : l20 a) (σ0 : Zm) (hm : MD a σ0) : ∀ (d m b : Nat) (x2 : Int) (σ : Zm), d < m → b + d = 12 → zfo (oO 286) σ0 σ → (0 ≤ lna a b → x2 = (a (lna a b).toNat).2) → (∀ j, j < (chg a b).length → zrd σ 286 j = lnum (chg a b) j) → zwp (fM_takeChanges_6 m ((nbg a b : Int) - 1) x2 (b : Int) σ) (fun r σ' => zfo (oO 286) σ0 σ' ∧ r = (nbg a 12 : Int) - 1 ∧ ∀ j, j < (chg a 12).length → zrd σ' 286 j = lnum (chg a 12) j)
  | 0, m + 1, b, x2, σ, _, hb, hf, hx, hv => by
    rw [fM_takeChanges_6]
    simp only [zwp_let]
    have : b = 12 := by omega
    subst this
    rw [if_pos (by omega), zwp_some]
    exact ⟨hf, rfl, hv⟩
  | d + 1, m + 1, b, x2, σ, hm', hb, hf, hx, hv => by
    have hc := hm b (by omega)
    obtain ⟨m0, m1, m2⟩ := md_b (b := b) ha.1 ha.2
    have hl := chg_len a b
    have hn := nbg_le a b
    have hln := lna_nbg a b
    have b1 := h20 b
    have b2 := h20 (lna a b).toNat
    have e85 : ∀ j, zrd σ 285 j = zrd σ0 285 j := fun j => hf.rd (oO_ne (by omega)) j
    have ez : zw ((b : Int) + 1) = ((b + 1 : Nat) : Int) := zwj (by omega) (by omega)
    have ih := pM_takeChanges_6 ha h20 σ0 hm d m (b + 1)
    have sn : nbg a (b + 1) = if (a b).1 = 1 then nbg a b + 1 else nbg a b := rfl
    have sl : lna a (b + 1) = if (a b).1 = 1 then (b : Int) else lna a b := rfl
    have sch : chg a (b + 1) = if (a b).1 = 1 ∧ 0 ≤ lna a b then chg a b ++ [(a b).2 - (a (lna a b).toNat).2] else chg a b := rfl
    have stay : (a b).1 ≠ 1 → zwp (fM_takeChanges_6 m ((nbg a b : Int) - 1) x2 ((b + 1 : Nat) : Int) σ) (fun r σ' => zfo (oO 286) σ0 σ' ∧ r = (nbg a 12 : Int) - 1 ∧ ∀ j, j < (chg a 12).length → zrd σ' 286 j = lnum (chg a 12) j) := by
      intro hne
      rw [if_neg hne] at sn sl
      rw [if_neg (fun q => hne q.1)] at sch
      rw [← sn]
      refine ih x2 σ (by omega) (by omega) hf (by rw [sl]; exact hx) (by rw [sch]; exact hv)
    rw [fM_takeChanges_6]
    simp only [zwp_let]
    unfold fM_isMadeHeld
    rw [if_neg (by omega), zckj (by omega) (by omega), zwp_let, Int.toNat_natCast, e85, hc, ez]
    rcases ha.2 b with q | q | q
    · rw [m0 q, if_pos rfl]
      exact stay (by omega)
    · obtain ⟨m1a, m1b, m1c⟩ := m1 q
      rw [if_neg (by omega), zckj (by omega) (by omega), zwp_bi, zwp_let, if_pos (by omega), zwp_some, if_pos (by decide)]
      rw [if_pos q] at sn sl
      have ew : zw ((nbg a b : Int) - 1 + 1) = (nbg a (b + 1) : Int) - 1 := by rw [zwj (by omega) (by omega), sn]; omega
      by_cases c : 0 ≤ lna a b
      · have hn1 := hln.mp c
        rw [if_pos ⟨q, c⟩] at sch
        rw [if_neg (by omega), zckj (by omega) (by omega), zwp_let, e85, hc, m1a, zckj (by omega) (by omega), show ((nbg a b : Int) - 1).toNat = (chg a b).length by omega, hx c]
        refine zwp_st (fun σ1 f1 v1 => ?_)
        rw [zckj (by omega) (by omega), zwp_let, f1.rd (oO_ne (by omega)), e85, hc, m1a, ew]
        refine ih _ σ1 (by omega) (by omega) (hf.tr f1) (fun _ => by rw [sl, Int.toNat_natCast]) (fun j hj => ?_)
        rw [v1, sch]
        rw [sch, List.length_append, List.length_cons, List.length_nil] at hj
        by_cases c3 : j = (chg a b).length
        · rw [if_pos c3, c3, zwj (by omega) (by omega)]
          unfold lnum
          simp
        · rw [if_neg c3, hv j (by omega)]
          unfold lnum
          rw [List.getD_eq_getElem?_getD, List.getD_eq_getElem?_getD, List.getElem?_append_left (by omega)]
      · have hn1 : nbg a b = 0 := by omega
        rw [if_neg (fun z => c z.2)] at sch
        rw [if_pos (by omega), zckj (by omega) (by omega), zwp_let, e85, hc, m1a, ew]
        exact ih _ σ (by omega) (by omega) hf (fun _ => by rw [sl, Int.toNat_natCast]) (by rw [sch]; exact hv)
    · obtain ⟨m2a, m2b, m2c⟩ := m2 q
      rw [if_neg (by omega), zckj (by omega) (by omega), zwp_bi, zwp_let, if_neg (by omega), zwp_some, if_neg (by decide)]
      exact stay (by omega)
theorem pM_shuffle_7 (n : Nat) (hn2 : n ≤ 11) (σ0 : Zm) : ∀ (i m x : Nat) (c : Nat → Int) (σ : Zm), i < m → (i < n ∨ i = 0) → x ≤ 60000 → cbd c → zfo (oO 286) σ0 σ → (∀ j, j < n → zrd σ 286 j = c j) → zwp (fM_shuffle_7 m (x : Int) (i : Int) σ) (fun _ σ' => zfo (oO 286) σ0 σ' ∧ ∀ j, j < n → zrd σ' 286 j = shf i x c j)
  | 0, m + 1, x, c, σ, _, _, hx, hc, hf, hv => by
    rw [fM_shuffle_7]
    simp only [zwp_let]
    rw [if_pos (by omega), zwp_some]
    exact ⟨hf, hv⟩
  | i + 1, m + 1, x, c, σ, hm, hi, hx, hc, hf, hv => by
    have hk : x % (i + 2) < i + 2 := Nat.mod_lt _ (by omega)
    have c1 := hc (i + 1)
    have c2 := hc (x % (i + 2))
    rw [fM_shuffle_7]
    simp only [zwp_let]
    rw [if_neg (by omega), show zw (((i + 1 : Nat) : Int) + 1) = ((i + 2 : Nat) : Int) from zwj (by omega) (by omega), zwp_dv]
    refine ⟨by omega, ?_⟩
    rw [zwp_let, show Int.tmod (x : Int) ((i + 2 : Nat) : Int) = ((x % (i + 2) : Nat) : Int) from rfl, zwj (a := ((x % (i + 2) : Nat) : Int)) (by omega) (by omega)]
    rw [zckj (by omega) (by omega), zwp_let, zckj (by omega) (by omega), zwp_let, Int.toNat_natCast, Int.toNat_natCast, hv _ (by omega), hv _ (by omega), zckj (by omega) (by omega)]
    refine zwp_st (fun σ1 f1 v1 => ?_)
    rw [zckj (by omega) (by omega)]
    refine zwp_st (fun σ2 f2 v2 => ?_)
    rw [zwp_let, show zw (((i + 1 : Nat) : Int) + (-1)) = (i : Int) by rw [zwj (by omega) (by omega)]; omega, show zw ((x : Int) * 131 + 17) = ((x * 131 + 17 : Nat) : Int) from zwj (by omega) (by omega), show Int.tmod ((x * 131 + 17 : Nat) : Int) 30013 = (((x * 131 + 17) % 30013 : Nat) : Int) from rfl, zwj (a := (((x * 131 + 17) % 30013 : Nat) : Int)) (by omega) (by omega)]
    refine pM_shuffle_7 n hn2 σ0 i m ((x * 131 + 17) % 30013) (swp c (i + 1) (x % (i + 2))) σ2 (by omega) (by omega) (by omega) (swp_bd hc _ _) ((hf.tr f1).tr f2) (fun j hj => ?_)
    rw [v2, v1, zwj (by omega) (by omega), zwj (by omega) (by omega), hv j hj]
    unfold swp
    grind
theorem pM_putChanges_6 {a : Ln} (ha : LSb a) (h20 : l20 a) {c : Nat → Int} (hc : cbd c) (σ0 : Zm) (hm : MD a σ0) (hcv : ∀ j, j < nbg a 12 - 1 → zrd σ0 286 j = c j) : ∀ (d m b : Nat) (σ : Zm), d < m → b + d = 12 → zfo (oO 285) σ0 σ → (∀ k, k < 12 → zrd σ 285 k = if k < b then md (shl a c k) else md (a k)) → zwp (fM_putChanges_6 m ((nbg a b : Int) - 1) (ssh a c b).2.1 (b : Int) σ) (fun _ σ' => zfo (oO 285) σ0 σ' ∧ MD (shl a c) σ')
  | 0, m + 1, b, σ, _, hb, hf, hv => by
    rw [fM_putChanges_6]
    simp only [zwp_let]
    rw [if_pos (by omega), zwp_some]
    exact ⟨hf, fun k hk => by rw [hv k hk, if_pos (by omega)]⟩
  | d + 1, m + 1, b, σ, hm', hb, hf, hv => by
    have hcb := hv b (by omega)
    rw [if_neg (by omega)] at hcb
    obtain ⟨m0, m1, m2⟩ := md_b (b := b) ha.1 ha.2
    have hn := nbg_le a b
    have b1 := h20 b
    obtain ⟨s1, s2, s3⟩ := ssh_1 a c b
    have sb := ssh_bd h20 hc b
    have sb2 := ssh_bd h20 hc (b + 1)
    have e86 : ∀ j, zrd σ 286 j = zrd σ0 286 j := fun j => hf.rd (oO_ne (by omega)) j
    have ez : zw ((b : Int) + 1) = ((b + 1 : Nat) : Int) := zwj (by omega) (by omega)
    have ih := pM_putChanges_6 ha h20 hc σ0 hm hcv d m (b + 1)
    have sn : nbg a (b + 1) = if (a b).1 = 1 then nbg a b + 1 else nbg a b := rfl
    have sst : ssh a c (b + 1) = if (a b).1 = 1 ∧ (ssh a c b).2.2 = 0 then ((ssh a c b).1, (a b).2, 1) else if (a b).1 = 1 then ((ssh a c b).1 + 1, (ssh a c b).2.1 + c (ssh a c b).1, (ssh a c b).2.2) else ssh a c b := rfl
    have hsl : shl a c b = if (a b).1 ≠ 0 then ((a b).1, (ssh a c (b + 1)).2.1) else (0, 0) := by
      unfold shl
      exact ite_cg ⟨fun q => q.2, fun q => ⟨by omega, q⟩⟩
    have put : ∀ (σ1 : Zm) (v : Int), zfo (oO 285) σ σ1 → (∀ j, zrd σ1 285 j = if j = b then v else zrd σ 285 j) → v = md (shl a c b) → ∀ k, k < 12 → zrd σ1 285 k = if k < b + 1 then md (shl a c k) else md (a k) := by
      intro σ1 v f1 v1 hv1 k hk
      rw [v1]
      by_cases q : k = b
      · rw [if_pos q, q, if_pos (by omega), hv1]
      · rw [if_neg q, hv k hk]
        exact ite_cg (by omega)
    rw [fM_putChanges_6]
    simp only [zwp_let]
    unfold fM_isMadeHeld
    rw [if_neg (by omega), zckj (by omega) (by omega), zwp_let, Int.toNat_natCast, hcb, ez]
    rcases ha.2 b with q | q | q
    · rw [m0 q, ifnn rfl]
      rw [if_neg (by omega)] at sn
      rw [if_neg (by omega), if_neg (by omega)] at sst
      rw [← sn, ← sst]
      refine ih σ (by omega) (by omega) hf (fun k hk => ?_)
      rw [hv k hk]
      by_cases z : k = b
      · rw [z, if_neg (by omega), if_pos (by omega), m0 q, hsl, ifnn q]
        rfl
      · exact ite_cg (by omega)
    · obtain ⟨m1a, m1b, m1c⟩ := m1 q
      rw [if_pos q] at sn
      have ew : zw ((nbg a b : Int) - 1 + 1) = (nbg a (b + 1) : Int) - 1 := by rw [zwj (by omega) (by omega), sn]; omega
      have hmd : md (shl a c b) = (ssh a c (b + 1)).2.1 := by
        rw [hsl, if_pos (by omega)]
        unfold md
        rw [if_neg (show ¬ ((a b).1, (ssh a c (b + 1)).2.1).1 = 0 from (by show ¬ (a b).1 = 0; omega)), if_pos (show ((a b).1, (ssh a c (b + 1)).2.1).1 = 1 from q)]
      rw [if_pos (by omega), zckj (by omega) (by omega), zwp_bi, zwp_let, if_pos (by omega), zwp_some, if_pos (by decide)]
      by_cases c1 : nbg a b = 0
      · rw [if_pos ⟨q, s1.mpr c1⟩] at sst
        rw [if_neg (by omega), zckj (by omega) (by omega), zwp_let, hcb, zckj (by omega) (by omega), m1a]
        refine zwp_st (fun σ1 f1 v1 => ?_)
        rw [ew]
        have := ih σ1 (by omega) (by omega) (hf.tr f1) (put σ1 (a b).2 f1 (fun j => by rw [v1, zwj (by omega) (by omega)]) (by rw [hmd, sst]))
        rw [sst] at this
        exact this
      · have c1' : ¬ (ssh a c b).2.2 = 0 := fun z => c1 (s1.mp z)
        rw [if_neg (fun z => c1' z.2), if_pos q] at sst
        have hmo := nbg_mono a (b + 1) (11 - b)
        rw [show b + 1 + (11 - b) = 12 by omega] at hmo
        have hcc := hc (ssh a c b).1
        rw [if_pos (by omega), zckj (by omega) (by omega), zwp_let, show ((nbg a b : Int) - 1).toNat = (ssh a c b).1 by omega, e86, hcv _ (by omega), zwp_let, zckj (by omega) (by omega), zwj (a := (ssh a c b).2.1 + c (ssh a c b).1) (by omega) (by omega)]
        refine zwp_st (fun σ1 f1 v1 => ?_)
        rw [ew]
        have := ih σ1 (by omega) (by omega) (hf.tr f1) (put σ1 ((ssh a c b).2.1 + c (ssh a c b).1) f1 (fun j => by rw [v1, zwj (by omega) (by omega)]) (by rw [hmd, sst]))
        rw [sst] at this
        exact this
    · obtain ⟨m2a, m2b, m2c⟩ := m2 q
      rw [if_neg (by omega)] at sn
      rw [if_neg (by omega), if_neg (by omega)] at sst
      rw [if_pos (by omega), zckj (by omega) (by omega), zwp_bi, zwp_let, if_neg (by omega), zwp_some, if_neg (by decide), zckj (by omega) (by omega)]
      refine zwp_st (fun σ1 f1 v1 => ?_)
      rw [← sn, ← sst]
      refine ih σ1 (by omega) (by omega) (hf.tr f1) ?_
      refine put σ1 ((ssh a c b).2.1 + 100000) f1 (fun j => by rw [v1, zwj (by omega) (by omega)]) ?_
      rw [hsl, if_pos (by omega), sst]
      unfold md
      rw [if_neg (show ¬ ((a b).1, (ssh a c b).2.1).1 = 0 from (by show ¬ (a b).1 = 0; omega)), if_neg (show ¬ ((a b).1, (ssh a c b).2.1).1 = 1 from (by show ¬ (a b).1 = 1; omega))]
theorem shl_LSb {a : Ln} (ha : LSb a) (h20 : l20 a) {c : Nat → Int} (hc : cbd c) : LSb (shl a c) := by
  refine ⟨shl_lss h20 hc, fun t => ?_⟩
  unfold shl
  split
  · exact ha.2 t
  · exact Or.inl rfl
/-- one made subject, made -/
theorem qM_shuffled {a : Ln} (ha : LSb a) (h20 : l20 a) (seed : Nat) (hs : seed ≤ 60000) (σ : Zm) (hm : MD a σ) {F : Zm → Zr} {P : Int → Zm → Prop} (hF : ∀ σ', zfo (fun q => q = 285 ∨ q = 286) σ σ' → MD (shs a seed) σ' → LSb (shs a seed) → zwp (F σ') P) : zwp (zbi (fM_takeChanges σ) fun v13 σ12 => zbv (fM_shuffle σ12 v13 (seed : Int)) fun σ14 => zbv (fM_putChanges σ14) F) P := by
  have hl := chg_len a 12
  have hn := nbg_le a 12
  unfold fM_takeChanges
  rw [zwp_bi]
  have t := pM_takeChanges_6 ha h20 σ hm 12 5000 0 0 σ (by omega) (by omega) zfo.rf (fun q => absurd (show (0 : Int) ≤ -1 from q) (by decide)) (fun j hj => absurd hj (by simp [chg]))
  refine zwp_mono t (fun r σ1 ⟨f1, hr, v1⟩ => ?_)
  rw [zwj (a := r) (by omega) (by omega), hr, zwp_bv]
  have fin : ∀ σ2, zfo (oO 286) σ1 σ2 → (∀ j, j < (chg a 12).length → zrd σ2 286 j = shf ((chg a 12).length - 1) seed (lnum (chg a 12)) j) → zwp (zbv (fM_putChanges σ2) F) P := by
    intro σ2 f2 v2
    have f12 : zfo (fun q => q = 285 ∨ q = 286) σ σ2 := (f1.mono (fun q z => Or.inr z)).tr (f2.mono (fun q z => Or.inr z))
    have hm2 : MD a σ2 := fun b hb => by rw [f2.rd (oO_ne (by omega)), f1.rd (oO_ne (by omega))]; exact hm b hb
    have hcb := shf_bd ((chg a 12).length - 1) seed _ (lnum_bd h20 12)
    rw [zwp_bv]
    unfold fM_putChanges
    have p := pM_putChanges_6 ha h20 hcb σ2 hm2 (fun j hj => v2 j (by omega)) 12 5000 0 σ2 (by omega) (by omega) zfo.rf (fun k hk => by rw [if_neg (by omega)]; exact hm2 k hk)
    refine zwp_mono p (fun r σ3 ⟨f3, d3⟩ => hF σ3 (f12.tr (f3.mono (fun q z => Or.inl z))) d3 (shl_LSb ha h20 hcb))
  unfold fM_shuffle
  rw [zwp_let]
  by_cases c : (chg a 12).length ≤ 1
  · rw [zwj (by omega) (by omega), fM_shuffle_7]
    simp only [zwp_let]
    rw [if_pos (by omega), zwp_some]
    refine fin σ1 zfo.rf (fun j hj => ?_)
    rw [show (chg a 12).length - 1 = 0 by omega]
    exact v1 j hj
  · rw [show zw ((nbg a 12 : Int) - 1 - 1) = (((chg a 12).length - 1 : Nat) : Int) by rw [zwj (by omega) (by omega)]; omega]
    refine zwp_mono (pM_shuffle_7 (chg a 12).length (by omega) σ1 ((chg a 12).length - 1) 5000 seed (lnum (chg a 12)) σ1 (by omega) (by omega) hs (lnum_bd h20 12) zfo.rf v1) (fun r σ2 ⟨f2, v2⟩ => fin σ2 f2 v2)

/-! MY OWN: the reference's three -/
theorem f3_parts {i : Nat} (h : i < 88) : f3 i % 25 = i % 11 + 7 ∧ f3 i / 25 % 9 = i / 11 % 4 ∧ f3 i / 225 % 2 = i / 44 ∧ f3 i / 450 = 0 := by
  have h2 : ∀ i : Nat, i < 88 → f3 i % 25 = i % 11 + 7 ∧ f3 i / 25 % 9 = i / 11 % 4 ∧ f3 i / 225 % 2 = i / 44 ∧ f3 i / 450 = 0 := by decide +kernel
  exact h2 i h
theorem lff_f3 {a : Ln} {i : Nat} (h : i < 88) (tr : Int) (htr : (tr = 0 ↔ ¬ i / 44 = 1)) : lff a (((i % 11 : Nat) : Int) - 5) (i / 11 % 4) tr 1 = lfo a (f3 i) := by
  obtain ⟨e1, e2, e3, e4⟩ := f3_parts h
  have := lff_lfo (a := a) (f := f3 i) (f3_lt h) tr (by rw [e3]; exact htr)
  rw [e1, e2, e4] at this
  rw [← this]
  congr 1
  omega
theorem qM_layThird {U : Nat → Ln} {A : Nat → Ln} (s : Nat) (hs : s < 6) (hU : vok (-20) 20 12 (U s)) (v : Nat) (hv : v < 4) (i : Nat) (hi : i < 88) (σ : Zm) (hA : MV A σ) (hM : MSu 274 σ U) : zwp (fM_layThird σ (s : Int) (v : Int) (i : Int)) (fun _ σ' => zfo (fun q => oSh q ∨ q = 285) σ σ' ∧ MV (updl A v (lfo (U s) (f3 i))) σ') := by
  have e1 : zw (Int.tdiv (i : Int) 44) = ((i / 44 : Nat) : Int) := by rw [show Int.tdiv (i : Int) 44 = ((i / 44 : Nat) : Int) from rfl, zwj (by omega) (by omega)]
  have e2 : zw (Int.tmod (i : Int) 11 - 5) = ((i % 11 : Nat) : Int) - 5 := by rw [show Int.tmod (i : Int) 11 = ((i % 11 : Nat) : Int) from rfl, zwj (by omega) (by omega)]
  have e3 : zw (Int.tmod (zw (Int.tdiv (i : Int) 11)) 4) = ((i / 11 % 4 : Nat) : Int) := by
    rw [show Int.tdiv (i : Int) 11 = ((i / 11 : Nat) : Int) from rfl, zwj (a := ((i / 11 : Nat) : Int)) (by omega) (by omega), show Int.tmod ((i / 11 : Nat) : Int) 4 = ((i / 11 % 4 : Nat) : Int) from rfl, zwj (by omega) (by omega)]
  unfold fM_layThird
  rw [e1, e2, e3]
  by_cases c : i / 44 = 1
  · rw [ifnn (by omega), zwp_bv]
    refine zwp_mono (qM_takeForm s hs hU v hv (((i % 11 : Nat) : Int) - 5) (by omega) (i / 11 % 4) (by omega) 1 1 (Or.inl rfl) σ hA hM) (fun r σ1 ⟨f1, v1⟩ => ?_)
    rw [zwp_some]
    rw [lff_f3 hi 1 ⟨fun q => absurd q (by decide), fun q => absurd c q⟩] at v1
    exact ⟨f1, v1⟩
  · rw [if_pos (by omega), zwp_bv]
    refine zwp_mono (qM_takeForm s hs hU v hv (((i % 11 : Nat) : Int) - 5) (by omega) (i / 11 % 4) (by omega) 0 1 (Or.inl rfl) σ hA hM) (fun r σ1 ⟨f1, v1⟩ => ?_)
    rw [zwp_some]
    rw [lff_f3 hi 0 ⟨fun _ => c, fun _ => rfl⟩] at v1
    exact ⟨f1, v1⟩
theorem qM_thirdCode (σ : Zm) (i : Nat) (hi : i < 88) : fM_thirdCode σ (i : Int) = some (fcode (f3 i), σ) := by
  obtain ⟨p1, p2, p3, p4⟩ := f3_parts hi
  have hb := fcode_bd (f3 i) (f3_lt hi)
  have e1 : zw (Int.tdiv (i : Int) 44) = ((i / 44 : Nat) : Int) := by rw [show Int.tdiv (i : Int) 44 = ((i / 44 : Nat) : Int) from rfl, zwj (by omega) (by omega)]
  have e2 : zw (Int.tmod (i : Int) 11 - 5) = ((f3 i % 25 : Nat) : Int) - 12 := by rw [show Int.tmod (i : Int) 11 = ((i % 11 : Nat) : Int) from rfl, zwj (by omega) (by omega)]; omega
  have e3 : zw (Int.tmod (zw (Int.tdiv (i : Int) 11)) 4) = ((f3 i / 25 % 9 : Nat) : Int) := by
    rw [show Int.tdiv (i : Int) 11 = ((i / 11 : Nat) : Int) from rfl, zwj (a := ((i / 11 : Nat) : Int)) (by omega) (by omega), show Int.tmod ((i / 11 : Nat) : Int) 4 = ((i / 11 % 4 : Nat) : Int) from rfl, zwj (by omega) (by omega), p2]
  have e4 : (1 : Int) = ((f3 i / 450 + 1 : Nat) : Int) := by rw [p4]; rfl
  unfold fM_thirdCode
  rw [e1, e2, e3]
  by_cases c : i / 44 = 1
  · rw [ifnn (by omega)]
    have := qM_formCode σ (f3 i) (f3_lt hi) 1 ⟨fun q => absurd q (by decide), fun q => absurd (by rw [p3]; exact c) q⟩
    rw [← e4] at this
    rw [zbi_eq this, zwj (by omega) (by omega)]
  · rw [if_pos (by omega)]
    have := qM_formCode σ (f3 i) (f3_lt hi) 0 ⟨fun _ => by rw [p3]; exact c, fun _ => rfl⟩
    rw [← e4] at this
    rw [zbi_eq this, zwj (by omega) (by omega)]
/-- what three tells of the least -/
def sel (what : Int) (s : Int × Int × Int) : Int := if what = 0 then s.1 else if what = 1 then fcode s.2.1.toNat else fcode s.2.2.toNat
def m3ok (x : Nat) (T : List Cl) (bar : Int) (U : Nat → Ln) (σ : Zm) : Prop := x < 6 ∧ TRm σ x T ∧ WF T ∧ zrd σ 274 0 = bar ∧ (1 ≤ bar ∧ bar ≤ 12) ∧ MSu 274 σ U
theorem m3ok_fo {D : Nat → Prop} {x : Nat} {T : List Cl} {bar : Int} {U : Nat → Ln} {σ σ1 : Zm} (h : m3ok x T bar U σ) (hf : zfo D σ σ1) (h1 : ¬ D 276) (h2 : ¬ D 274) : m3ok x T bar U σ1 := by
  obtain ⟨y1, y2, y3, y4, y5, y6⟩ := h
  exact ⟨y1, TRm_fo hf h1 y2, y3, by rw [hf.rd h2]; exact y4, y5, MSu_fo y6 hf h2⟩
def oM33 (q : Nat) : Prop := oMg q ∨ q = 285
/-- and the first fields stay -/
def z33 (σ σ' : Zm) : Prop := zfo oM33 σ σ' ∧ ∀ k, k < 26 → zrd σ' 273 k = zrd σ 273 k
theorem z33.rf {σ : Zm} : z33 σ σ := ⟨zfo.rf, fun _ _ => rfl⟩
theorem z33.tr {σ σ1 σ2 : Zm} (h : z33 σ σ1) (h2 : z33 σ1 σ2) : z33 σ σ2 := ⟨h.1.tr h2.1, fun k q => (h2.2 k q).trans (h.2 k q)⟩
/-- best and told, so far -/
def bt (what : Int) (first : Prop) (s : Int × Int × Int) (best told : Int) : Prop := (first → best = -1 ∧ told = -1) ∧ (¬ first → best = s.1 ∧ told = sel what s)
theorem pM_three_97 {x : Nat} {T : List Cl} {bar : Int} {U : Nat → Ln} (hU : ∀ s, vok (-20) 20 12 (U s)) (one two third : Nat) (h2 : two < 6) (h3 : third < 6) (what : Int) (hwt : 0 ≤ what ∧ what ≤ 2) (i : Nat) (hi : i < 88) (s : Int × Int × Int) (hs : 0 ≤ s.1 ∧ s.1 ≤ 2147483647) (σ0 : Zm) (P : Int → Zm → Prop) (K : Int → Int → Int → Int → Int → Int → Int → Zm → Zr)
  (hK : ∀ σ' best told, z33 σ0 σ' → m3ok x T bar U σ' → (∃ b, MV (updl (updl (updl (fun _ => zln) 0 (lfo (U one) 12)) 1 (lfo (U two) (f3 i))) 2 b) σ') → bt what False (b3k (wth T (U one) (U two) (U third) bar i) (f3 i) s 88) best told → zwp (K (x : Int) (two : Int) (third : Int) what best told (i : Int) σ') P) : ∀ (d m k : Nat) (σ : Zm) (best told : Int), d < m → k + d = 88 → z33 σ0 σ → m3ok x T bar U σ → (∃ b, MV (updl (updl (updl (fun _ => zln) 0 (lfo (U one) 12)) 1 (lfo (U two) (f3 i))) 2 b) σ) → bt what (i = 0 ∧ k = 0) (b3k (wth T (U one) (U two) (U third) bar i) (f3 i) s k) best told → (i = 0 → s.1 = 2147483647) → zwp (fM_three_97 m (x : Int) (two : Int) (third : Int) what best told (i : Int) (k : Int) σ K) P
  | 0, m + 1, k, σ, best, told, _, hk, hf, hok, hb, hbt, h0 => by
    rw [fM_three_97]
    simp only [zwp_let]
    rw [if_pos (by omega)]
    have : k = 88 := by omega
    subst this
    exact hK σ best told hf hok hb ⟨fun q => absurd q id, fun _ => hbt.2 (by omega)⟩
  | d + 1, m + 1, k, σ, best, told, hm', hk, hf, hok, hb, hbt, h0 => by
    obtain ⟨b, hv⟩ := hb
    obtain ⟨y1, y2, y3, y4, y5, y6⟩ := hok
    have hTl := y2.2.1
    have hW := wth_bd hTl (U one) (U two) (U third) bar i k
    have hsb := b3k_bd (W := wth T (U one) (U two) (U third) bar i) (x := (f3 i : Int)) (fun j => (wth_bd hTl (U one) (U two) (U third) bar i j).1) hs k
    have est : b3k (wth T (U one) (U two) (U third) bar i) (f3 i) s (k + 1) = if wth T (U one) (U two) (U third) bar i k < (b3k (wth T (U one) (U two) (U third) bar i) (f3 i) s k).1 then (wth T (U one) (U two) (U third) bar i k, (f3 i : Int), (f3 k : Int)) else b3k (wth T (U one) (U two) (U third) bar i) (f3 i) s k := rfl
    have ez : zw ((k : Int) + 1) = ((k + 1 : Nat) : Int) := zwj (by omega) (by omega)
    rw [fM_three_97]
    simp only [zwp_let]
    rw [if_neg (by omega), zwp_bv]
    refine zwp_mono (qM_layThird third h3 (hU third) 2 (by omega) k (by omega) σ hv y6) (fun r σ1 ⟨f1, v1⟩ => ?_)
    rw [updl2] at v1
    have hmk : mok x T bar (updl (updl (updl (fun _ => zln) 0 (lfo (U one) 12)) 1 (lfo (U two) (f3 i))) 2 (lfo (U third) (f3 k))) σ1 := by
      refine ⟨y1, TRm_fo f1 (by unfold oSh; omega) y2, y3, by rw [f1.rd (by unfold oSh; omega)]; exact y4, y5, v1, fun v hv => ?_⟩
      unfold updl
      split
      · exact lfo_sm (vok_ss (hU third)) _
      · split
        · exact lfo_sm (vok_ss (hU two)) _
        · split
          · exact lfo_sm (vok_ss (hU one)) 12
          · exact zln_sm
    rw [zwp_bi]
    refine zwp_mono (qM_judge hmk 0 (by omega) (-1) (by decide)) (fun r2 σ2 ⟨j1, j2, j3, j4, j5⟩ => ?_)
    have hsum : lsum (abk T (updl (updl (updl (fun _ => zln) 0 (lfo (U one) 12)) 1 (lfo (U two) (f3 i))) 2 (lfo (U third) (f3 k))) bar (32 - 0) 0) = wth T (U one) (U two) (U third) bar i k := by
      have a0 : updl (updl (updl (fun _ => zln) 0 (lfo (U one) 12)) 1 (lfo (U two) (f3 i))) 2 (lfo (U third) (f3 k)) 0 = lfo (U one) 12 := rfl
      have a1 : updl (updl (updl (fun _ => zln) 0 (lfo (U one) 12)) 1 (lfo (U two) (f3 i))) 2 (lfo (U third) (f3 k)) 1 = lfo (U two) (f3 i) := rfl
      have a2 : updl (updl (updl (fun _ => zln) 0 (lfo (U one) 12)) 1 (lfo (U two) (f3 i))) 2 (lfo (U third) (f3 k)) 2 = lfo (U third) (f3 k) := rfl
      rw [Nat.sub_zero, lsum_three rfl, a0, a1, a2]
      unfold wth fpr
      omega
    rw [hsum, zwj (a := wth T (U one) (U two) (U third) bar i k) (by omega) (by omega)] at j5
    rw [j5, zwj (a := wth T (U one) (U two) (U third) bar i k) (by omega) (by omega)]
    have f12 : zfo oM33 σ σ2 := (f1.mono (fun q z => by unfold oSh at z; unfold oM33 oMg; omega)).tr (j1.mono (fun q z => by unfold oMJ at z; unfold oM33 oMg; omega))
    have ok2 := m3ok_fo ⟨y1, y2, y3, y4, y5, y6⟩ f12 (by unfold oM33 oMg; omega) (by unfold oM33 oMg; omega)
    have v2 : ∃ b, MV (updl (updl (updl (fun _ => zln) 0 (lfo (U one) 12)) 1 (lfo (U two) (f3 i))) 2 b) σ2 := ⟨_, MV_fo v1 j1 (by unfold oMJ; omega) (by unfold oMJ; omega)⟩
    have ih := fun best told => pM_three_97 (T := T) (bar := bar) (x := x) hU one two third h2 h3 what hwt i hi s hs σ0 P K hK d m (k + 1) σ2 best told (by omega) (by omega) (hf.tr ⟨f12, fun k q => by rw [j2 k (by omega) (by omega) (by omega), f1.rd (by unfold oSh; omega)]⟩) ok2 v2
    have k137 : wth T (U one) (U two) (U third) bar i k < (b3k (wth T (U one) (U two) (U third) bar i) (f3 i) s k).1 → zwp (fM_three_137 (fun x1 x3 x4 x5 x6 x7 x8 x9 σ => fM_three_97 m x1 x3 x4 x5 x6 x7 x8 x9 σ K) K (x : Int) (two : Int) (third : Int) what (i : Int) (k : Int) (wth T (U one) (U two) (U third) bar i k) σ2) P := by
      intro hc
      rw [if_pos hc] at est
      have cb1 := fcode_bd (f3 i) (f3_lt hi)
      have cb2 := fcode_bd (f3 k) (f3_lt (show k < 88 by omega))
      unfold fM_three_137
      by_cases w0 : what = 0
      · rw [ifnn w0, ez]
        refine ih _ _ ⟨fun q => absurd q.2 (by omega), fun _ => ⟨by rw [est], ?_⟩⟩ h0
        rw [est]
        unfold sel
        rw [if_pos w0]
      · rw [if_pos w0]
        by_cases w1 : what = 1
        · rw [ifnn w1, zwp_bi, qM_thirdCode σ2 i hi, zwp_some, ez, zwj (a := fcode (f3 i)) (by omega) (by omega)]
          refine ih _ _ ⟨fun q => absurd q.2 (by omega), fun _ => ⟨by rw [est], ?_⟩⟩ h0
          rw [est]
          unfold sel
          rw [if_neg w0, if_pos w1, Int.toNat_natCast]
        · rw [if_pos w1, zwp_bi, qM_thirdCode σ2 k (by omega), zwp_some, ez, zwj (a := fcode (f3 k)) (by omega) (by omega)]
          refine ih _ _ ⟨fun q => absurd q.2 (by omega), fun _ => ⟨by rw [est], ?_⟩⟩ h0
          rw [est]
          unfold sel
          rw [if_neg w0, if_neg w1, Int.toNat_natCast]
    by_cases c1 : best < 0
    · rw [if_pos c1]
      refine k137 ?_
      by_cases q : i = 0 ∧ k = 0
      · have := h0 q.1
        rw [q.2]
        show _ < s.1
        rw [this]
        rw [q.2] at hW
        omega
      · have := (hbt.2 q).1
        omega
    · rw [if_neg c1]
      have hnf : ¬ (i = 0 ∧ k = 0) := fun q => by have := (hbt.1 q).1; omega
      obtain ⟨q1, q2⟩ := hbt.2 hnf
      by_cases c2 : wth T (U one) (U two) (U third) bar i k < best
      · rw [if_pos c2]
        exact k137 (by omega)
      · rw [if_neg c2, ez]
        rw [if_neg (by omega)] at est
        exact ih best told ⟨fun q => absurd q.2 (by omega), fun _ => by rw [est]; exact ⟨q1, q2⟩⟩ h0
theorem pM_three_79 {x : Nat} {T : List Cl} {bar : Int} {U : Nat → Ln} (hU : ∀ s, vok (-20) 20 12 (U s)) (one two third : Nat) (h2 : two < 6) (h3 : third < 6) (what : Int) (hwt : 0 ≤ what ∧ what ≤ 2) (σ0 : Zm) : ∀ (d m i : Nat) (σ : Zm) (best told : Int), d < m → i + d = 88 → z33 σ0 σ → m3ok x T bar U σ → (∃ c b, MV (updl (updl (updl (fun _ => zln) 0 (lfo (U one) 12)) 1 c) 2 b) σ) → bt what (i = 0) (b3 (wth T (U one) (U two) (U third) bar) (2147483647, 0, 0) i) best told → zwp (fM_three_79 m (x : Int) (two : Int) (third : Int) what best told (i : Int) σ) (fun r σ' => z33 σ0 σ' ∧ r = sel what (b3 (wth T (U one) (U two) (U third) bar) (2147483647, 0, 0) 88))
  | 0, m + 1, i, σ, best, told, _, hi, hf, hok, hb, hbt => by
    rw [fM_three_79]
    simp only [zwp_let]
    rw [if_pos (by omega), zwp_some]
    have : i = 88 := by omega
    subst this
    exact ⟨hf, (hbt.2 (by omega)).2⟩
  | d + 1, m + 1, i, σ, best, told, hm', hi, hf, hok, hb, hbt => by
    obtain ⟨c, b, hv⟩ := hb
    have hTl := hok.2.1.2.1
    have hsb := b3_bd (W := wth T (U one) (U two) (U third) bar) (s := (2147483647, 0, 0)) (fun i k => (wth_bd hTl (U one) (U two) (U third) bar i k).1) (by simp) i
    rw [fM_three_79]
    simp only [zwp_let]
    rw [if_neg (by omega), zwp_bv]
    refine zwp_mono (qM_layThird two h2 (hU two) 1 (by omega) i (by omega) σ hv hok.2.2.2.2.2) (fun r σ1 ⟨f1, v1⟩ => ?_)
    have e : updl (updl (updl (updl (fun _ => zln) 0 (lfo (U one) 12)) 1 c) 2 b) 1 (lfo (U two) (f3 i)) = updl (updl (updl (fun _ => zln) 0 (lfo (U one) 12)) 1 (lfo (U two) (f3 i))) 2 b := by
      funext y
      unfold updl
      by_cases q : y = 1
      · rw [if_pos q, if_neg (by omega), if_pos q]
      · rw [if_neg q, if_neg q]
        by_cases q2 : y = 2
        · rw [if_pos q2, if_pos q2]
        · rw [if_neg q2, if_neg q2, if_neg q]
    rw [e] at v1
    have f1' : zfo oM33 σ σ1 := f1.mono (fun q z => by unfold oSh at z; unfold oM33 oMg; omega)
    refine pM_three_97 hU one two third h2 h3 what hwt i (by omega) (b3 (wth T (U one) (U two) (U third) bar) (2147483647, 0, 0) i) hsb σ0 _ _ (fun σ2 best2 told2 g1 g2 g3 g4 => ?_) 88 5000 0 σ1 best told (by omega) (by omega) (hf.tr ⟨f1', fun k q => by rw [f1.rd (by unfold oSh; omega)]⟩) (m3ok_fo hok f1' (by unfold oM33 oMg; omega) (by unfold oM33 oMg; omega)) ⟨b, v1⟩ ⟨fun q => hbt.1 q.1, fun q => hbt.2 (fun z => q ⟨z, rfl⟩)⟩ (fun q => by rw [q]; rfl)
    rw [show zw ((i : Int) + 1) = ((i + 1 : Nat) : Int) from zwj (by omega) (by omega)]
    obtain ⟨b2, g3⟩ := g3
    exact pM_three_79 hU one two third h2 h3 what hwt σ0 d m (i + 1) σ2 best2 told2 (by omega) (by omega) g1 g2 ⟨_, b2, g3⟩ ⟨fun q => by omega, fun _ => g4.2 id⟩

/-! MY OWN: feed, end -/
theorem zby0 (y : Int32) (z : Int32) (k : Nat) (hk : k = 0 ∨ k = 8 ∨ k = 16 ∨ k = 24) (e1 : (z.toUInt32 &&& Int32.toUInt32 31).toBitVec = BitVec.ofNat 32 k) (e2 : (z &&& 31).toBitVec = BitVec.ofNat 32 k) : (y.toUInt32 >>> (z.toUInt32 &&& Int32.toUInt32 31)).toInt32 &&& zI 255 = (y >>> (z &&& 31)) &&& zI 255 := by
  apply Int32.toBitVec_inj.1
  have a1 : ((y.toUInt32 >>> (z.toUInt32 &&& Int32.toUInt32 31)).toInt32).toBitVec = y.toBitVec >>> k := by
    rw [UInt32.toBitVec_toInt32, UInt32.toBitVec_shiftRight, e1]
    have : (BitVec.ofNat 32 k % 32).toNat = k := by rcases hk with h | h | h | h <;> subst h <;> decide
    rw [BitVec.ushiftRight_eq', this]
    rfl
  have a2 : ((y >>> (z &&& 31))).toBitVec = y.toBitVec.sshiftRight k := by
    rw [Int32.toBitVec_shiftRight, e2]
    have : ((BitVec.ofNat 32 k).smod 32).toNat = k := by rcases hk with h | h | h | h <;> subst h <;> decide
    rw [BitVec.sshiftRight_eq', this]
  rw [Int32.toBitVec_and, Int32.toBitVec_and, a1, a2]
  apply BitVec.eq_of_getLsbD_eq
  intro i hi
  rw [BitVec.getLsbD_and, BitVec.getLsbD_and, BitVec.getLsbD_ushiftRight, BitVec.getLsbD_sshiftRight]
  have h255 : ∀ i : Nat, i < 32 → (zI 255).toBitVec.getLsbD i = decide (i < 8) := by decide +kernel
  rw [h255 i hi]
  by_cases c : i < 8
  · simp [c, show k + i < 32 by omega, show ¬ 32 ≤ i by omega]
  · simp [c]
theorem zbyte (x : Int) (i : Nat) (hi : i < 4) : zand (zushr x (24 - 8 * (i : Int))) 255 = zand (zshr x (24 - 8 * (i : Int))) 255 := by
  unfold zand zushr zshr
  rw [zI_t, zI_t]
  have h1 : ∀ i : Nat, i < 4 → ((zI (24 - 8 * (i : Int))).toUInt32 &&& Int32.toUInt32 31).toBitVec = BitVec.ofNat 32 (24 - 8 * i) ∧ ((zI (24 - 8 * (i : Int))) &&& 31).toBitVec = BitVec.ofNat 32 (24 - 8 * i) := by decide +kernel
  rw [zby0 (zI x) (zI (24 - 8 * (i : Int))) (24 - 8 * i) (by omega) (h1 i hi).1 (h1 i hi).2]
theorem zand_255 (x : Int) : 0 ≤ zand x 255 ∧ zand x 255 ≤ 255 := by
  have e : (zI x &&& zI 255).toBitVec.toNat ≤ 255 := by
    rw [Int32.toBitVec_and, BitVec.toNat_and]
    exact Nat.le_trans Nat.and_le_right (by decide)
  unfold zand
  rw [bv_zI (by omega)]
  omega
def byt (x : Int) (i : Nat) : Int := zand (zshr x (24 - 8 * (i : Int))) 255
theorem pR_append_3 (x : Int) : ∀ (d m i n : Nat) (σ : Zm), d < m → i + d = 4 → zrd σ 150 2 = (n : Int) → n + d ≤ 300 → zwp (fR_append_3 m x (24 - 8 * (i : Int)) σ) (fun _ σ' => zfo (fun q => q = 150 ∨ q = 151) σ σ' ∧ (∀ k, k ≠ 2 → zrd σ' 150 k = zrd σ 150 k) ∧ zrd σ' 150 2 = ((n + d : Nat) : Int) ∧ ∀ j, zrd σ' 151 j = if n ≤ j ∧ j < n + d then byt x (i + (j - n)) else zrd σ 151 j)
  | 0, m + 1, i, n, σ, _, hi, h2, hn => by
    rw [fR_append_3]
    simp only [zwp_let]
    rw [if_pos (by omega), zwp_some]
    exact ⟨zfo.rf, fun _ _ => rfl, h2, fun j => by rw [if_neg (by omega)]⟩
  | d + 1, m + 1, i, n, σ, hm, hi, h2, hn => by
    rw [fR_append_3]
    simp only [zwp_let]
    rw [if_neg (by omega), h2, zwp_let, if_neg (by omega), zwp_let, zckj (by omega) (by omega), Int.toNat_natCast]
    refine zwp_st (fun σ1 f1 v1 => ?_)
    rw [zwp_let, f1.rd (oO_ne (by omega)), h2]
    refine zwp_st (fun σ2 f2 v2 => ?_)
    have hz : zw ((n : Int) + 1) = ((n + 1 : Nat) : Int) := by rw [zwj (by omega) (by omega)]; omega
    rw [show zw (24 - 8 * (i : Int) + (-8)) = 24 - 8 * ((i + 1 : Nat) : Int) by rw [zwj (by omega) (by omega)]; omega]
    refine zwp_mono (pR_append_3 x d m (i + 1) (n + 1) σ2 (by omega) (by omega) (by rw [v2, if_pos rfl, hz]) (by omega)) (fun r σ3 ⟨g1, g2, g3, g4⟩ => ⟨?_, fun k hk => ?_, by rw [g3]; omega, fun j => ?_⟩)
    · exact ((f1.mono (fun q z => Or.inr z)).tr (f2.mono (fun q z => Or.inl z))).tr g1
    · rw [g2 k hk, v2, if_neg hk, f1.rd (oO_ne (by omega))]
    · rw [g4 j, f2.rd (oO_ne (by omega)), v1 j]
      have hb : zw (zand (zushr x (24 - 8 * (i : Int))) 255) = byt x i := by
        rw [zbyte x i (by omega)]
        have := zand_255 (zshr x (24 - 8 * (i : Int)))
        exact zwj (by omega) (by omega)
      by_cases c : j = n
      · rw [if_neg (by omega), if_pos c, if_pos (by omega), hb, show i + (j - n) = i by omega]
      · by_cases c2 : n + 1 ≤ j ∧ j < n + 1 + d
        · rw [if_pos c2, if_pos (by omega), show i + 1 + (j - (n + 1)) = i + (j - n) by omega]
        · rw [if_neg c2, if_neg c, if_neg (by omega)]
theorem pM_four_3 (x : Int) : ∀ (d m i n : Nat) (σ : Zm), d < m → i + d = 4 → zrd σ 273 4 = (n : Int) → n + d ≤ 300 → zwp (fM_four_3 m x (24 - 8 * (i : Int)) σ) (fun _ σ' => zfo (fun q => q = 273 ∨ q = 277) σ σ' ∧ (∀ k, k ≠ 4 → zrd σ' 273 k = zrd σ 273 k) ∧ zrd σ' 273 4 = ((n + d : Nat) : Int) ∧ ∀ j, zrd σ' 277 j = if n ≤ j ∧ j < n + d then byt x (i + (j - n)) else zrd σ 277 j)
  | 0, m + 1, i, n, σ, _, hi, h2, hn => by
    rw [fM_four_3]
    simp only [zwp_let]
    rw [if_pos (by omega), zwp_some]
    exact ⟨zfo.rf, fun _ _ => rfl, h2, fun j => by rw [if_neg (by omega)]⟩
  | d + 1, m + 1, i, n, σ, hm, hi, h2, hn => by
    rw [fM_four_3]
    simp only [zwp_let]
    rw [if_neg (by omega), h2, zwp_let, zckj (by omega) (by omega), Int.toNat_natCast]
    refine zwp_st (fun σ1 f1 v1 => ?_)
    rw [zwp_let, f1.rd (oO_ne (by omega)), h2]
    refine zwp_st (fun σ2 f2 v2 => ?_)
    have hz : zw ((n : Int) + 1) = ((n + 1 : Nat) : Int) := by rw [zwj (by omega) (by omega)]; omega
    rw [show zw (24 - 8 * (i : Int) + (-8)) = 24 - 8 * ((i + 1 : Nat) : Int) by rw [zwj (by omega) (by omega)]; omega]
    refine zwp_mono (pM_four_3 x d m (i + 1) (n + 1) σ2 (by omega) (by omega) (by rw [v2, if_pos rfl, hz]) (by omega)) (fun r σ3 ⟨g1, g2, g3, g4⟩ => ⟨?_, fun k hk => ?_, by rw [g3]; omega, fun j => ?_⟩)
    · exact ((f1.mono (fun q z => Or.inr z)).tr (f2.mono (fun q z => Or.inl z))).tr g1
    · rw [g2 k hk, v2, if_neg hk, f1.rd (oO_ne (by omega))]
    · rw [g4 j, f2.rd (oO_ne (by omega)), v1 j]
      have hb : zw (zand (zshr x (24 - 8 * (i : Int))) 255) = byt x i := by
        have := zand_255 (zshr x (24 - 8 * (i : Int)))
        exact zwj (by omega) (by omega)
      by_cases c : j = n
      · rw [if_neg (by omega), if_pos c, if_pos (by omega), hb, show i + (j - n) = i by omega]
      · by_cases c2 : n + 1 ≤ j ∧ j < n + 1 + d
        · rw [if_pos c2, if_pos (by omega), show i + 1 + (j - (n + 1)) = i + (j - n) by omega]
        · rw [if_neg c2, if_neg c, if_neg (by omega)]
def tpe (f : Nat → Int) (n : Nat) (x : Int) : Nat → Int := fun j => if n ≤ j ∧ j < n + 4 then byt x (j - n) else f j
def XR (n : Nat) (f : Nat → Int) (σ0 σ : Zm) : Prop := zfo (fun q => q = 150 ∨ q = 151) σ0 σ ∧ (∀ k, k ≠ 2 → zrd σ 150 k = zrd σ0 150 k) ∧ zrd σ 150 2 = (n : Int) ∧ ∀ j, zrd σ 151 j = f j
def MR (n : Nat) (f : Nat → Int) (σ0 σ : Zm) : Prop := zfo (fun q => q = 273 ∨ q = 277) σ0 σ ∧ (∀ k, k ≠ 4 → zrd σ 273 k = zrd σ0 273 k) ∧ zrd σ 273 4 = (n : Int) ∧ ∀ j, zrd σ 277 j = f j
theorem qR_append {σ0 σ : Zm} {n : Nat} {f : Nat → Int} (h : XR n f σ0 σ) (hn : n + 4 ≤ 300) (x : Int) {F : Zm → Zr} {P : Int → Zm → Prop} (hF : ∀ σ', XR (n + 4) (tpe f n x) σ0 σ' → zwp (F σ') P) : zwp (zbv (fR_append σ x) F) P := by
  obtain ⟨h1, h2, h3, h4⟩ := h
  unfold fR_append
  rw [zwp_bv]
  refine zwp_mono (pR_append_3 x 4 5000 0 n σ (by omega) (by omega) h3 hn) (fun _ σ1 ⟨g1, g2, g3, g4⟩ => hF σ1 ⟨h1.tr g1, fun k hk => by rw [g2 k hk, h2 k hk], g3, fun j => ?_⟩)
  rw [g4 j, h4 j, Nat.zero_add]
  rfl
theorem qM_four {σ0 σ : Zm} {n : Nat} {f : Nat → Int} (h : MR n f σ0 σ) (hn : n + 4 ≤ 300) (x : Int) {F : Zm → Zr} {P : Int → Zm → Prop} (hF : ∀ σ', MR (n + 4) (tpe f n x) σ0 σ' → zwp (F σ') P) : zwp (zbv (fM_four σ x) F) P := by
  obtain ⟨h1, h2, h3, h4⟩ := h
  unfold fM_four
  rw [zwp_bv]
  refine zwp_mono (pM_four_3 x 4 5000 0 n σ (by omega) (by omega) h3 hn) (fun _ σ1 ⟨g1, g2, g3, g4⟩ => hF σ1 ⟨h1.tr g1, fun k hk => by rw [g2 k hk, h2 k hk], g3, fun j => ?_⟩)
  rw [g4 j, h4 j, Nat.zero_add]
  rfl
theorem tpe_eq {f g : Nat → Int} {n : Nat} (x : Int) (h : ∀ j, j < n → f j = g j) : ∀ j, j < n + 4 → tpe f n x j = tpe g n x j := by
  intro j hj
  unfold tpe
  by_cases c : n ≤ j ∧ j < n + 4
  · rw [if_pos c, if_pos c]
  · rw [if_neg c, if_neg c]
    exact h j (by omega)
theorem tpe_bd {f : Nat → Int} {n : Nat} (x : Int) (h : ∀ j, j < n → 0 ≤ f j ∧ f j ≤ 255) : ∀ j, j < n + 4 → 0 ≤ tpe f n x j ∧ tpe f n x j ≤ 255 := by
  intro j hj
  unfold tpe
  by_cases c : n ≤ j ∧ j < n + 4
  · rw [if_pos c]
    exact zand_255 _
  · rw [if_neg c]
    exact h j (by omega)
/-- the tape is another one -/
theorem Inv_tape {w : Wd} {p : Tp} {σ σ1 σ2 : Zm} (g : GI w) (gp : GT p) (hX : XI w σ) (hM : MI w σ) (hXT : XT p σ) (hMP : MP p σ) {n : Nat} {f f2 : Nat → Int} (hn : n ≤ 300) (hf : ∀ j, j < n → 0 ≤ f j ∧ f j ≤ 255) (he : ∀ j, j < n → f j = f2 j) (h1 : XR n f σ σ1) (h2 : MR n f2 σ1 σ2) : Inv σ2 := by
  have f12 : zfo (fun q => (q = 150 ∨ q = 151) ∨ (q = 273 ∨ q = 277)) σ σ2 := (h1.1.mono (fun q z => Or.inl z)).tr (h2.1.mono (fun q z => Or.inr z))
  refine ⟨w, (n, f, p.2.2), g, ⟨hn, hf, gp.2.2⟩, XI_fo hX f12 (fun q a => by omega) (fun q a b => by omega), MI_fo hM f12 (by omega) (by omega) (by omega), ?_, ?_⟩
  · obtain ⟨t1, t2, t3, t4⟩ := hXT
    refine ⟨by rw [h2.1.rd (by omega)]; exact h1.2.2.1, fun j hj => by rw [h2.1.rd (by omega)]; exact h1.2.2.2 j, by rw [f12.rd (by omega)]; exact t3, fun q => ?_⟩
    rw [h2.1.rd (by omega), h2.1.rd (by omega), h1.2.1 3 (by omega), h1.2.1 4 (by omega)]
    exact t4 q
  · obtain ⟨m1, m2, m3, m4⟩ := hMP
    refine ⟨h2.2.2.1, fun j hj => by rw [h2.2.2.2 j, ← he j hj], ?_, ?_⟩
    · rw [h2.2.1 5 (by omega), h1.1.rd (by omega)]; exact m3
    · rw [h2.2.1 6 (by omega), h1.1.rd (by omega)]; exact m4
theorem st_feed (x1 x2 x3 x4 x5 : Int) : St (fun σ => fX_feed σ x1 x2 x3 x4 x5) (fun σ => fM_feed σ x1 x2 x3 x4 x5) := by
  intro σ h
  have hI := h
  obtain ⟨w, p, g, gp, hX, hM, hXT, hMP⟩ := h
  have hn := gp.1
  show zwp (fX_feed σ x1 x2 x3 x4 x5) (fun r1 σ1 => zwp (fM_feed σ1 x1 x2 x3 x4 x5) (fun r2 σ2 => r1 = r2 ∧ Inv σ2))
  by_cases c : p.1 + 20 ≤ 300
  · unfold fX_feed
    rw [zwp_let, hXT.1, show zw ((p.1 : Int) + 20) = ((p.1 + 20 : Nat) : Int) by rw [zwj (by omega) (by omega)]; omega, if_pos (by omega)]
    have r0 : XR p.1 (fun j => zrd σ 151 j) σ σ := ⟨zfo.rf, fun _ _ => rfl, hXT.1, fun _ => rfl⟩
    refine qR_append r0 (by omega) x1 (fun σ1 r1 => ?_)
    refine qR_append r1 (by omega) x2 (fun σ2 r2 => ?_)
    refine qR_append r2 (by omega) x3 (fun σ3 r3 => ?_)
    refine qR_append r3 (by omega) x4 (fun σ4 r4 => ?_)
    refine qR_append r4 (by omega) x5 (fun σ5 r5 => ?_)
    rw [zwp_let, zwp_some, r5.2.2.1]
    have e4 : zrd σ5 273 4 = (p.1 : Int) := by rw [r5.1.rd (by omega)]; exact hMP.1
    unfold fM_feed
    rw [zwp_let, e4, show zw ((p.1 : Int) + 20) = ((p.1 + 20 : Nat) : Int) by rw [zwj (by omega) (by omega)]; omega, if_pos (by omega)]
    have s0 : MR p.1 (fun j => zrd σ5 277 j) σ5 σ5 := ⟨zfo.rf, fun _ _ => rfl, e4, fun _ => rfl⟩
    refine qM_four s0 (by omega) x1 (fun τ1 s1 => ?_)
    refine qM_four s1 (by omega) x2 (fun τ2 s2 => ?_)
    refine qM_four s2 (by omega) x3 (fun τ3 s3 => ?_)
    refine qM_four s3 (by omega) x4 (fun τ4 s4 => ?_)
    refine qM_four s4 (by omega) x5 (fun τ5 s5 => ?_)
    rw [zwp_let, zwp_some, s5.2.2.1]
    have b0 : ∀ j, j < p.1 → zrd σ 151 j = zrd σ5 277 j := fun j hj => by rw [r5.1.rd (by omega), hXT.2.1 j hj, hMP.2.1 j hj]
    have d0 : ∀ j, j < p.1 → 0 ≤ zrd σ 151 j ∧ zrd σ 151 j ≤ 255 := fun j hj => by rw [hXT.2.1 j hj]; exact gp.2.1 j hj
    exact ⟨rfl, Inv_tape g gp hX hM hXT hMP (by omega) (tpe_bd x5 (tpe_bd x4 (tpe_bd x3 (tpe_bd x2 (tpe_bd x1 d0))))) (tpe_eq x5 (tpe_eq x4 (tpe_eq x3 (tpe_eq x2 (tpe_eq x1 b0))))) r5 s5⟩
  · have e1 : fX_feed σ x1 x2 x3 x4 x5 = some (-1, σ) := by
      unfold fX_feed
      dsimp only [zlet]
      rw [hXT.1, show zw ((p.1 : Int) + 20) = ((p.1 + 20 : Nat) : Int) by rw [zwj (by omega) (by omega)]; omega, if_neg (by omega)]
    have e2 : fM_feed σ x1 x2 x3 x4 x5 = some (-1, σ) := by
      unfold fM_feed
      dsimp only [zlet]
      rw [hMP.1, show zw ((p.1 : Int) + 20) = ((p.1 + 20 : Nat) : Int) by rw [zwj (by omega) (by omega)]; omega, if_neg (by omega)]
    exact St_neg (G := fun σ => fM_feed σ x1 x2 x3 x4 x5) hI e1 e2
theorem st_end (x1 : Int) : St (fun σ => fX_end σ x1) (fun σ => fM_end σ x1) := by
  intro σ h
  have hI := h
  obtain ⟨w, p, g, gp, hX, hM, hXT, hMP⟩ := h
  have hn := gp.1
  show zwp (fX_end σ x1) (fun r1 σ1 => zwp (fM_end σ1 x1) (fun r2 σ2 => r1 = r2 ∧ Inv σ2))
  by_cases c : 0 ≤ x1 ∧ x1 ≤ (p.1 : Int)
  · obtain ⟨n, rfl, hn2⟩ := nat_of (x := x1) (n := p.1 + 1) (by omega)
    have hz : zw (n : Int) = (n : Int) := zwj (by omega) (by omega)
    unfold fX_end
    rw [if_neg (by omega), zwp_let, hXT.1, if_pos (by omega)]
    refine zwp_st (fun σ1 f1 v1 => ?_)
    rw [zwp_some]
    have e4 : zrd σ1 273 4 = (p.1 : Int) := by rw [f1.rd (oO_ne (by omega))]; exact hMP.1
    unfold fM_end
    rw [zwp_let, e4, mIn_t c, if_pos (by decide)]
    refine zwp_st (fun σ2 f2 v2 => ?_)
    rw [zwp_some]
    refine ⟨rfl, Inv_tape g gp hX hM hXT hMP (n := n) (f := fun j => zrd σ 151 j) (f2 := fun j => zrd σ1 277 j) (by omega) (fun j hj => by show 0 ≤ zrd σ 151 j ∧ zrd σ 151 j ≤ 255; rw [hXT.2.1 j (by omega)]; exact gp.2.1 j (by omega)) (fun j hj => by show zrd σ 151 j = zrd σ1 277 j; rw [f1.rd (oO_ne (by omega)), hXT.2.1 j (by omega), hMP.2.1 j (by omega)]) ⟨f1.mono (fun q z => Or.inl z), fun k hk => by rw [v1, if_neg hk], by rw [v1, if_pos rfl, hz], fun j => f1.rd (oO_ne (by omega)) j⟩ ⟨f2.mono (fun q z => Or.inl z), fun k hk => by rw [v2, if_neg hk], by rw [v2, if_pos rfl, hz], fun j => f2.rd (oO_ne (by omega)) j⟩⟩
  · have e1 : fX_end σ x1 = some (-1, σ) := by
      unfold fX_end
      dsimp only [zlet]
      by_cases d : x1 < 0
      · rw [if_pos d]
      · rw [if_neg d, hXT.1, if_neg (by omega)]
    have e2 : fM_end σ x1 = some (-1, σ) := by
      unfold fM_end
      dsimp only [zlet]
      rw [hMP.1, mIn_f c, if_neg (by decide)]
    exact St_neg (G := fun σ => fM_end σ x1) hI e1 e2

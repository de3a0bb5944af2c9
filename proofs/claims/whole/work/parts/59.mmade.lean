/-! MY OWN: the reference makes notes -/
def lset (l : Ln) (t : Nat) (p : Int) : Ln := fun x => if x = t then (1, p) else l x
theorem qM_put {A : Nat → Ln} {σ : Zm} (h : MV A σ) (v t : Nat) (hv : v < 4) (ht : t < 32) (p : Int) (hp : -500 ≤ p ∧ p ≤ 500) : zwp (fM_put σ (v : Int) (t : Int) p) (fun _ σ' => zfo oSh σ σ' ∧ MV (updl A v (lset (A v) t p)) σ') := by
  unfold fM_put
  rw [show zw (32 * (v : Int) + (t : Int)) = ((32 * v + t : Nat) : Int) by rw [zwj (by omega) (by omega)]; omega, zckj (by omega) (by omega), Int.toNat_natCast]
  refine zwp_st (fun σ1 f1 v1 => ?_)
  rw [zckj (by omega) (by omega)]
  refine zwp_st (fun σ2 f2 v2 => ?_)
  rw [zwp_some]
  have e2 : ∀ k, zrd σ2 282 k = if k = 32 * v + t then p else zrd σ 282 k := by
    intro k
    rw [f2.rd (oO_ne (by omega)), v1 k, zwj (a := p) (by omega) (by omega)]
  have e3 : ∀ k, zrd σ2 283 k = if k = 32 * v + t then 1 else zrd σ 283 k := by
    intro k
    rw [v2 k, f1.rd (oO_ne (by omega)), zwj (a := 1) (by omega) (by omega)]
  refine ⟨(f1.mono (fun q z => Or.inl z)).tr (f2.mono (fun q z => Or.inr z)), fun k hk => ?_, fun i hi => ?_⟩
  · rw [e2 k, e3 k]
    have := h.1 k hk
    by_cases c : k = 32 * v + t
    · rw [if_pos c, if_pos c]
      exact ⟨Or.inr rfl, fun z => by omega⟩
    · rw [if_neg c, if_neg c]; exact this
  · have h2 := h.2 i hi
    funext x
    have hx := congrFun h2 x
    unfold ms at hx ⊢
    unfold updl
    rw [e2, e3]
    by_cases c : i = v
    · rw [if_pos c]
      subst c
      unfold lset
      by_cases d : x = t
      · have q : 32 * i + x = 32 * i + t := by omega
        rw [if_pos d, if_pos q, if_pos q, if_pos ⟨by omega, by omega⟩, if_pos (by decide)]
      · rw [if_neg d]
        by_cases c32 : x < 32
        · have q : ¬ 32 * i + x = 32 * i + t := by omega
          rw [if_neg q, if_neg q]
          exact hx
        · rw [if_neg (fun z => c32 z.1)]
          rw [if_neg (fun z => c32 z.1)] at hx
          exact hx
    · rw [if_neg c]
      by_cases c32 : x < 32
      · have q : ¬ 32 * i + x = 32 * v + t := by omega
        rw [if_neg q, if_neg q]
        exact hx
      · rw [if_neg (fun z => c32 z.1)]
        rw [if_neg (fun z => c32 z.1)] at hx
        exact hx
/-- the reference's surroundings while it makes notes -/
def KM (x : Nat) (T : List Cl) (bar : Int) (W : Nat → Ln) (vv e : Nat) (σ : Zm) : Prop := (x < 6 ∧ TRm σ x T ∧ WF T ∧ zrd σ 274 0 = bar ∧ (1 ≤ bar ∧ bar ≤ 12)) ∧ ∃ l, MV (updl W vv l) σ ∧ (∀ t, t < e → l t = W vv t) ∧ lsm l
def KS (W : Nat → Ln) (vv e n : Nat) (last : Int) : Prop := (∀ i, lsm (W i)) ∧ vv < 4 ∧ 1 ≤ e ∧ e + n ≤ 32 ∧ 1 ≤ n ∧ n ≤ 5 ∧ 0 ≤ last ∧ last ≤ 60
def zg (D : Nat → Prop) (σ σ' : Zm) : Prop := zfo D σ σ' ∧ ∀ k, k ≤ 25 → zrd σ' 273 k = zrd σ 273 k
theorem zg.rf {D : Nat → Prop} {σ : Zm} : zg D σ σ := ⟨zfo.rf, fun _ _ => rfl⟩
theorem zg.tr {D : Nat → Prop} {σ σ1 σ2 : Zm} (h : zg D σ σ1) (h2 : zg D σ1 σ2) : zg D σ σ2 := ⟨h.1.tr h2.1, fun k q => (h2.2 k q).trans (h.2 k q)⟩
theorem zg.mono {D D' : Nat → Prop} {σ σ1 : Zm} (h : zg D σ σ1) (hs : ∀ q, D q → D' q) : zg D' σ σ1 := ⟨h.1.mono hs, h.2⟩
theorem KM_sm {W : Nat → Ln} {vv : Nat} (hW : ∀ i, lsm (W i)) {l : Ln} (hl : lsm l) (v : Nat) : lsm (updl W vv l v) := by
  unfold updl
  split
  · exact hl
  · exact hW v
theorem lset_sm {l : Ln} (hl : lsm l) (t : Nat) (p : Int) (hp : -500 ≤ p ∧ p ≤ 500) : lsm (lset l t p) := by
  intro x
  unfold lset
  split
  · show -1000 ≤ p ∧ p ≤ 1000
    omega
  · exact hl x
theorem pM_costAt_18 {x : Nat} {T : List Cl} {bar : Int} {W : Nat → Ln} {vv : Nat} {l : Ln} (hW : ∀ i, lsm (W i)) (hl : lsm l) (hvv : vv < 4) (t : Nat) (ht : t < 32) (σ0 : Zm) (hk : mok x T bar (updl W vv l) σ0) (P : Int → Zm → Prop) (K : Int → Int → Int → Zm → Zr) (hK : ∀ σ' L, zfo oMJ σ0 σ' → (∀ k, k ≠ 26 → k ≠ 27 → zrd σ' 273 k = zrd σ0 273 k) → ml σ' L → lsum L = pps T W vv l t bar 4 → zwp (K (x : Int) (vv : Int) (t : Int) σ') P) : ∀ (d m o : Nat) (σ : Zm) (L : List Bk), d < m → o + d = 4 → zfo oMJ σ0 σ → (∀ k, k ≠ 26 → k ≠ 27 → zrd σ 273 k = zrd σ0 273 k) → ml σ L → lsum L = pps T W vv l t bar o → zwp (fM_costAt_18 m (x : Int) (vv : Int) (t : Int) (o : Int) σ K) P
  | 0, m + 1, o, σ, L, _, ho, h1, h2, h3, h4 => by
    have : o = 4 := by omega
    subst this
    rw [fM_costAt_18]
    simp only [zwp_let]
    rw [if_pos (by decide)]
    exact hK σ L h1 h2 h3 h4
  | d + 1, m + 1, o, σ, L, hm, ho, h1, h2, h3, h4 => by
    obtain ⟨y1, y2, y3, y4, y5, y6, y7⟩ := hk
    have hk' : mok x T bar (updl W vv l) σ := ⟨y1, TRm_fo h1 (by unfold oMJ; omega) y2, y3, by rw [h1.rd (by unfold oMJ; omega)]; exact y4, y5, MV_fo y6 h1 (by unfold oMJ; omega) (by unfold oMJ; omega), y7⟩
    have e : pps T W vv l t bar (o + 1) = pps T W vv l t bar o + pp1 T W vv l t bar o := rfl
    rw [fM_costAt_18]
    simp only [zwp_let]
    rw [if_neg (by omega), show zw ((o : Int) + 1) = ((o + 1 : Nat) : Int) by rw [zwj (by omega) (by omega)]; omega]
    have go : ∀ (σ1 : Zm) (B : List Bk), mpo B σ σ1 → lsum B = pp1 T W vv l t bar o → zwp (fM_costAt_18 m (x : Int) (vv : Int) (t : Int) ((o + 1 : Nat) : Int) σ1 K) P := by
      intro σ1 B hB hs
      refine pM_costAt_18 hW hl hvv t ht σ0 ⟨y1, y2, y3, y4, y5, y6, y7⟩ P K hK d m (o + 1) σ1 (L ++ B) (by omega) (by omega) (h1.tr hB.1) (fun k a b => by rw [hB.2.1 k a b, h2 k a b]) (hB.2.2 L h3) ?_
      rw [lsum_ap, h4, hs, e]
    by_cases c : o = vv
    · rw [if_pos (by omega)]
      exact go σ [] mpo.rf (by unfold pp1; rw [if_pos c]; rfl)
    · rw [if_neg (by omega)]
      by_cases c2 : vv ≤ o
      · rw [if_pos (by omega), if_pos (by omega), zwp_bv]
        refine zwp_mono (qM_judgePair hk' vv o hvv (by omega) t ht) (fun _ σ1 hB => go σ1 _ hB ?_)
        rw [lsum_tag]
        unfold pp1
        rw [if_neg c, Nat.min_eq_left (by omega), Nat.max_eq_right (by omega)]
        rfl
      · rw [if_neg (by omega), if_neg (by omega), zwp_bv]
        refine zwp_mono (qM_judgePair hk' o vv (by omega) hvv t ht) (fun _ σ1 hB => go σ1 _ hB ?_)
        rw [lsum_tag]
        unfold pp1
        rw [if_neg c, Nat.min_eq_right (by omega), Nat.max_eq_left (by omega)]
        rfl
theorem qM_costAt {x : Nat} {T : List Cl} {bar : Int} {W : Nat → Ln} {vv : Nat} {l : Ln} (hW : ∀ i, lsm (W i)) (hl : lsm l) (hvv : vv < 4) (t : Nat) (ht : t < 32) (σ : Zm) (hk : mok x T bar (updl W vv l) σ) : zwp (fM_costAt σ (x : Int) (vv : Int) (t : Int)) (fun r σ' => zg oMJ σ σ' ∧ r = pps T W vv l t bar 4 + bsum (lbk T l t bar)) := by
  obtain ⟨y1, y2, y3, y4, y5, y6, y7⟩ := hk
  unfold fM_costAt
  refine zwp_st (fun σ1 f1 v1 => ?_)
  refine zwp_st (fun σ2 f2 v2 => ?_)
  refine zwp_st (fun σ3 f3 v3 => ?_)
  have f13 : zfo (oO 273) σ σ3 := (f1.tr f2).tr f3
  have f13' : zfo oMJ σ σ3 := f13.mono (fun q z => Or.inl z)
  have e3 : ∀ k, k ≤ 25 → zrd σ3 273 k = zrd σ 273 k := fun k hk => by rw [v3, if_neg (by omega), v2, if_neg (by omega), v1, if_neg (by omega)]
  have hk3 : mok x T bar (updl W vv l) σ3 := ⟨y1, TRm_fo f13 (oO_ne (by omega)) y2, y3, by rw [f13.rd (oO_ne (by omega))]; exact y4, y5, MV_fo y6 f13 (oO_ne (by omega)) (oO_ne (by omega)), y7⟩
  have hm3 : ml σ3 [] := ⟨by rw [v3, if_neg (by omega), v2, if_neg (by omega), v1, if_pos rfl]; rfl, by rw [v3, if_neg (by omega), v2, if_pos rfl]; rfl, fun _ k b hk => by simp at hk⟩
  refine pM_costAt_18 hW hl hvv t ht σ3 hk3 _ _ (fun σ4 L f4 e4 m4 s4 => ?_) 4 5000 0 σ3 [] (by omega) (by omega) zfo.rf (fun _ _ _ => rfl) hm3 rfl
  obtain ⟨z1, z2, z3, z4, z5, z6, z7⟩ := hk3
  have hk4 : mok x T bar (updl W vv l) σ4 := ⟨z1, TRm_fo f4 (by unfold oMJ; omega) z2, z3, by rw [f4.rd (by unfold oMJ; omega)]; exact z4, z5, MV_fo z6 f4 (by unfold oMJ; omega) (by unfold oMJ; omega), z7⟩
  rw [zwp_bv]
  refine zwp_mono (qM_judgeLine hk4 vv hvv t ht) (fun _ σ5 hB => ?_)
  have hT := y2.2.1
  have b1 := pps_bd hT W vv l t bar 4
  have b2 := lbk_bd hT l t bar
  have hu : updl W vv l vv = l := by unfold updl; rw [if_pos rfl]
  rw [hu] at hB
  rw [zwp_let, zwp_some, (hB.2.2 L m4).2.1, lsum_ap, s4, lsum_tag, zwj (by omega) (by omega)]
  refine ⟨⟨(f13'.tr f4).tr hB.1, fun k hk => ?_⟩, rfl⟩
  rw [hB.2.1 k (by omega) (by omega), e4 k (by omega) (by omega), e3 k hk]
theorem KM_put {x : Nat} {T : List Cl} {bar : Int} {W : Nat → Ln} {vv e : Nat} {σ : Zm} {l : Ln} (hk : (x < 6 ∧ TRm σ x T ∧ WF T ∧ zrd σ 274 0 = bar ∧ (1 ≤ bar ∧ bar ≤ 12)) ∧ MV (updl W vv l) σ) (hvv : vv < 4) (t : Nat) (ht : t < 32) (p : Int) (hp : -500 ≤ p ∧ p ≤ 500) {F : Zm → Zr} {P : Int → Zm → Prop} (hF : ∀ σ', zg oSh σ σ' → ((x < 6 ∧ TRm σ' x T ∧ WF T ∧ zrd σ' 274 0 = bar ∧ (1 ≤ bar ∧ bar ≤ 12)) ∧ MV (updl W vv (lset l t p)) σ') → zwp (F σ') P) : zwp (zbv (fM_put σ (vv : Int) (t : Int) p) F) P := by
  obtain ⟨⟨y1, y2, y3, y4, y5⟩, y6⟩ := hk
  rw [zwp_bv]
  refine zwp_mono (qM_put y6 vv t hvv ht p hp) (fun _ σ1 ⟨f1, b1⟩ => hF σ1 ⟨f1, fun k _ => f1.rd (by unfold oSh; omega) k⟩ ⟨⟨y1, TRm_fo f1 (by unfold oSh; omega) y2, y3, by rw [f1.rd (by unfold oSh; omega)]; exact y4, y5⟩, ?_⟩)
  have hu : updl W vv l vv = l := by unfold updl; rw [if_pos rfl]
  rw [hu, updl2] at b1
  exact b1
theorem qM_costOf_49 {x : Nat} {T : List Cl} {bar : Int} {W : Nat → Ln} {vv e n : Nat} {last : Int} (hs : KS W vv e n last) {j be ah ch : Nat} (hj : j < n) (hc : ch < 15) {l : Ln} (h1 : ∀ y, y < e → l y = W vv y) (h3 : 1 ≤ j → l (e + j - 1) = (1, last - 7 + (ah : Int))) (h4 : 2 ≤ j → l (e + j - 2) = (1, last - 7 + (be : Int))) (hl : lsm l) (σ : Zm) (hk : (x < 6 ∧ TRm σ x T ∧ WF T ∧ zrd σ 274 0 = bar ∧ (1 ≤ bar ∧ bar ≤ 12)) ∧ MV (updl W vv l) σ) : zwp (fM_costOf_49 (x : Int) (vv : Int) (e : Int) (j : Int) last (ch : Int) σ) (fun r σ' => zg oMg σ σ' ∧ KM x T bar W vv e σ' ∧ r = cst T W vv e bar j (last - 7 + (be : Int)) (last - 7 + (ah : Int)) (last - 7 + (ch : Int))) := by
  obtain ⟨s1, s2, s3, s4, s5, s6, s7, s8⟩ := hs
  have hT := hk.1.2.1.2.1
  unfold fM_costOf_49
  rw [show zw ((e : Int) + (j : Int)) = ((e + j : Nat) : Int) by rw [zwj (by omega) (by omega)]; omega, show zw (last + (ch : Int) - 7) = last - 7 + (ch : Int) by rw [zwj (by omega) (by omega)]; omega]
  refine KM_put (e := e) hk s2 (e + j) (by omega) _ (by omega) (fun σ1 g1 k1 => ?_)
  have hls : lsm (lset l (e + j) (last - 7 + (ch : Int))) := lset_sm hl _ _ (by omega)
  rw [zwp_bi]
  obtain ⟨⟨y1, y2, y3, y4, y5⟩, y6⟩ := k1
  refine zwp_mono (qM_costAt s1 hls s2 (e + j) (by omega) σ1 ⟨y1, y2, y3, y4, y5, y6, fun v _ => KM_sm s1 hls v⟩) (fun r σ2 ⟨g2, e2⟩ => ?_)
  have hs1 : ∀ y, y < e → lset l (e + j) (last - 7 + (ch : Int)) y = W vv y := fun y hy => by unfold lset; rw [if_neg (by omega)]; exact h1 y hy
  have hs2 : lset l (e + j) (last - 7 + (ch : Int)) (e + j) = (1, last - 7 + (ch : Int)) := by unfold lset; rw [if_pos rfl]
  have hs3 : 1 ≤ j → lset l (e + j) (last - 7 + (ch : Int)) (e + j - 1) = (1, last - 7 + (ah : Int)) := fun q => by unfold lset; rw [if_neg (by omega)]; exact h3 q
  have hs4 : 2 ≤ j → lset l (e + j) (last - 7 + (ch : Int)) (e + j - 2) = (1, last - 7 + (be : Int)) := fun q => by unfold lset; rw [if_neg (by omega)]; exact h4 q
  have hr : r = cst T W vv e bar j (last - 7 + (be : Int)) (last - 7 + (ah : Int)) (last - 7 + (ch : Int)) := by
    rw [e2, sung_l (lo := last - 7) ⟨hs1, hs2, hs3, hs4⟩, sung_p (lo := last - 7) s3 hs1 hs2 hs3 (last - 7 + (be : Int)) 4]
    rfl
  have hb := cst_bd hT W vv e bar j (last - 7 + (be : Int)) (last - 7 + (ah : Int)) (last - 7 + (ch : Int))
  rw [zwp_some, hr, zwj (by omega) (by omega)]
  refine ⟨(g1.mono (fun q z => by unfold oSh at z; unfold oMg; omega)).tr (g2.mono (fun q z => by unfold oMJ at z; unfold oMg; omega)), ⟨⟨y1, TRm_fo g2.1 (by unfold oMJ; omega) y2, y3, by rw [g2.1.rd (by unfold oMJ; omega)]; exact y4, y5⟩, lset l (e + j) (last - 7 + (ch : Int)), MV_fo y6 g2.1 (by unfold oMJ; omega) (by unfold oMJ; omega), hs1, hls⟩, rfl⟩
theorem qM_costOf {x : Nat} {T : List Cl} {bar : Int} {W : Nat → Ln} {vv e n : Nat} {last : Int} (hs : KS W vv e n last) {j be ah ch : Nat} (hj : j < n) (hb : be < 15) (ha : ah < 15) (hc : ch < 15) (σ : Zm) (hk : KM x T bar W vv e σ) : zwp (fM_costOf σ (x : Int) (vv : Int) (e : Int) (j : Int) last (be : Int) (ah : Int) (ch : Int)) (fun r σ' => zg oMg σ σ' ∧ KM x T bar W vv e σ' ∧ r = cst T W vv e bar j (last - 7 + (be : Int)) (last - 7 + (ah : Int)) (last - 7 + (ch : Int))) := by
  have hs' := hs
  obtain ⟨s1, s2, s3, s4, s5, s6, s7, s8⟩ := hs
  obtain ⟨k1, l, k2, k3, k4⟩ := hk
  unfold fM_costOf
  have p25 : ∀ (l : Ln) (σ1 : Zm), ((x < 6 ∧ TRm σ1 x T ∧ WF T ∧ zrd σ1 274 0 = bar ∧ (1 ≤ bar ∧ bar ≤ 12)) ∧ MV (updl W vv l) σ1) → (∀ y, y < e → l y = W vv y) → lsm l → (2 ≤ j → l (e + j - 2) = (1, last - 7 + (be : Int))) → zwp (fM_costOf_25 (x : Int) (vv : Int) (e : Int) (j : Int) last (ah : Int) (ch : Int) σ1) (fun r σ' => zg oMg σ1 σ' ∧ KM x T bar W vv e σ' ∧ r = cst T W vv e bar j (last - 7 + (be : Int)) (last - 7 + (ah : Int)) (last - 7 + (ch : Int))) := by
    intro l σ1 k h1 hl h4
    unfold fM_costOf_25
    by_cases c : j = 0
    · rw [if_pos (by omega)]
      exact qM_costOf_49 hs' hj hc h1 (fun q => by omega) h4 hl σ1 k
    · rw [if_neg (by omega), show zw ((e : Int) + (j : Int) - 1) = ((e + j - 1 : Nat) : Int) by rw [zwj (by omega) (by omega)]; omega, show zw (last + (ah : Int) - 7) = last - 7 + (ah : Int) by rw [zwj (by omega) (by omega)]; omega]
      refine KM_put (e := e) k s2 (e + j - 1) (by omega) _ (by omega) (fun σ2 g2 k2 => ?_)
      refine zwp_mono (qM_costOf_49 hs' (be := be) (ah := ah) hj hc (l := lset l (e + j - 1) (last - 7 + (ah : Int))) (fun y hy => ?_) (fun q => ?_) (fun q => ?_) (lset_sm hl _ _ (by omega)) σ2 k2) (fun r σ3 ⟨g3, k3, e3⟩ => ⟨(g2.mono (fun q z => by unfold oSh at z; unfold oMg; omega)).tr g3, k3, e3⟩)
      · unfold lset; rw [if_neg (by omega)]; exact h1 y hy
      · unfold lset; rw [if_pos rfl]
      · unfold lset; rw [if_neg (by omega)]; exact h4 q
  by_cases c : j ≤ 1
  · rw [if_pos (by omega)]
    exact p25 l σ ⟨k1, k2⟩ k3 k4 (fun q => by omega)
  · rw [if_neg (by omega), show zw ((e : Int) + (j : Int) - 2) = ((e + j - 2 : Nat) : Int) by rw [zwj (by omega) (by omega)]; omega, show zw (last + (be : Int) - 7) = last - 7 + (be : Int) by rw [zwj (by omega) (by omega)]; omega]
    refine KM_put (e := e) ⟨k1, k2⟩ s2 (e + j - 2) (by omega) _ (by omega) (fun σ1 g1 k1' => ?_)
    refine zwp_mono (p25 (lset l (e + j - 2) (last - 7 + (be : Int))) σ1 k1' (fun y hy => ?_) (lset_sm k4 _ _ (by omega)) (fun q => ?_)) (fun r σ3 ⟨g3, k3, e3⟩ => ⟨(g1.mono (fun q z => by unfold oSh at z; unfold oMg; omega)).tr g3, k3, e3⟩)
    · unfold lset; rw [if_neg (by omega)]; exact k3 y hy
    · unfold lset; rw [if_pos rfl]

/-! MY OWN: fit, fits, cheapest -/
theorem oF_sc {q : Nat} (h : oF q) : scX q := by unfold oF at h; unfold scX; omega
theorem oFp_sc {q : Nat} (h : oFp q) : scX q := by unfold oFp at h; unfold scX; omega
theorem wTl {w : Wd} {σ : Zm} (h : XI w σ) {x : Nat} (hx : x < 6) (hxn : (x : Int) < wN w 1) : (wT w x).length ≤ 10 := (h.2.2 x hx hxn).2.1
theorem lss_U {w : Wd} (g : GI w) (s : Nat) : LSb (wU w s) := vok_LSb (g.1.2.1 s)
/-- a form of three numbers, and its place -/
theorem fit_at {h : Int} {d m : Nat} {tr : Int} (hh : -12 ≤ h ∧ h ≤ 12) (hd : d ≤ 8) (hm : m = 1 ∨ m = 2) : ∃ f : Nat, f < 900 ∧ (f : Int) = ((m : Int) - 1) * 450 + (if tr = 0 then 0 else 225) + (d : Int) * 25 + h + 12 ∧ ∀ a : Ln, lff a h d tr m = lfo a f := by
  by_cases c : tr = 0
  · refine ⟨(m - 1) * 450 + d * 25 + (h + 12).toNat, by omega, by rw [if_pos c]; omega, fun a => ?_⟩
    have := lff_lfo (a := a) (f := (m - 1) * 450 + d * 25 + (h + 12).toNat) (by omega) tr ⟨fun _ => by omega, fun _ => c⟩
    rw [← this]
    congr 1 <;> omega
  · refine ⟨(m - 1) * 450 + 225 + d * 25 + (h + 12).toNat, by omega, by rw [if_neg c]; omega, fun a => ?_⟩
    have := lff_lfo (a := a) (f := (m - 1) * 450 + 225 + d * 25 + (h + 12).toNat) (by omega) tr ⟨fun q => absurd q c, fun q => absurd (show ((m - 1) * 450 + 225 + d * 25 + (h + 12).toNat) / 225 % 2 = 1 by omega) q⟩
    rw [← this]
    congr 1 <;> omega
/-- the class begins with the first subject -/
theorem xBegin {w : Wd} {σ : Zm} (g : GI w) (h : XI w σ) {x s : Nat} (hx : x < 6) (hxn : (x : Int) < wN w 1) (hs : s < 6) {F : Zm → Zr} {P : Int → Zm → Prop} (hF : ∀ σ', zfo oF σ σ' → fok (225 + 6 * x) (wT w x) (wN w 0) (wU w s) σ' → zwp (F σ') P) : zwp (zck (x : Int) 6 <| zlet (zrd σ 1 7) fun v14 => zck (s : Int) 6 <| zbv (fF_begin σ (zRF 149 (x : Int).toNat) v14 (zRF 3 (s : Int).toNat)) F) P := by
  obtain ⟨r1, r2⟩ := ru_R hx
  obtain ⟨a1, a2, a3⟩ := xSub g h hs
  rw [zckj (by omega) (by omega), zwp_let, zckj (by omega) (by omega), Int.toNat_natCast, Int.toNat_natCast, r2, a2, h.1.2.2.1, zwp_bv]
  exact zwp_mono (qF_begin σ r1 (h.2.2 x hx hxn) (g.2.2.2 x hx hxn) (GI_n g).1 a1 (by omega)) (fun _ σ' ⟨b1, b2⟩ => hF σ' b1 b2)
theorem xSub2 {w : Wd} {σ σ1 : Zm} (g : GI w) (h : XI w σ) {s : Nat} (hs : s < 6) (hf : zfo scX σ σ1) : sok (57 + 3 * s) (wU w s) σ1 := sok_fo (xSub g h hs).1 hf (by unfold scX; omega) (by unfold scX; omega)
/-- the reference's sheet for two subjects -/
theorem mPrep {w : Wd} {σ : Zm} (g : GI w) (h : MI w σ) {x s r : Nat} (hx : x < 6) (hxn : (x : Int) < wN w 1) (hs : s < 6) (hr : r < 6) {F : Zm → Zr} {P : Int → Zm → Prop} (hF : ∀ σ', zfo scM σ σ' → (∀ k, k ≤ 25 → zrd σ' 273 k = zrd σ 273 k) → gok x (wT w x) (wN w 0) (wU w s) (wU w r) σ' → zwp (F σ') P) : zwp (zbv (fM_prepare σ (s : Int) (r : Int)) F) P := by
  rw [zwp_bv]
  refine zwp_mono (qM_prepare s r hs hr g.1.2.1 σ h.1.2.1 hx (h.2.2 x hx hxn) (g.2.2.2 x hx hxn) (h.1.2.2.1 0 (by omega)) (GI_n g).1) (fun _ σ1 ⟨f1, b1⟩ => hF σ1 (f1.mono (fun q z => by unfold oSh at z; unfold scM; omega)) (fun k _ => ?_) b1)
  rw [f1.rd (by unfold oSh; omega)]
theorem oMg_sc {q : Nat} (h : oMg q) : scM q := by unfold oMg at h; unfold scM; omega
theorem nX_fit {w : Wd} {σ : Zm} (g : GI w) (hX : XI w σ) (x1 x2 x3 x4 x5 x6 x7 : Int) (c : ¬ ((0 ≤ x1 ∧ x1 < wN w 1) ∧ (0 ≤ x2 ∧ x2 ≤ 5 ∧ 0 < lbt (wU w x2.toNat)) ∧ (0 ≤ x3 ∧ x3 ≤ 5 ∧ 0 < lbt (wU w x3.toNat)) ∧ ((-12) ≤ x4 ∧ x4 ≤ 12) ∧ (0 ≤ x5 ∧ x5 ≤ 8) ∧ (1 ≤ x7 ∧ x7 ≤ 2))) : fX_fit σ x1 x2 x3 x4 x5 x6 x7 = some ((-1), σ) := by
  unfold fX_fit
  by_cases c0 : 0 ≤ x1 ∧ x1 < wN w 1
  · rw [xText_t g hX c0, if_neg (by decide)]
    by_cases c1 : 0 ≤ x2 ∧ x2 ≤ 5 ∧ 0 < lbt (wU w x2.toNat)
    · rw [xNotes g hX, if_pos c1, if_neg (by decide)]
      by_cases c2 : 0 ≤ x3 ∧ x3 ≤ 5 ∧ 0 < lbt (wU w x3.toNat)
      · rw [xNotes g hX, if_pos c2, if_pos (by decide)]
        by_cases c3 : (-12) ≤ x4 ∧ x4 ≤ 12
        · rw [pwithin_t c3, if_neg (by decide)]
          by_cases c4 : 0 ≤ x5 ∧ x5 ≤ 8
          · rw [pwithin_t c4, if_neg (by decide)]
            by_cases c5 : 1 ≤ x7 ∧ x7 ≤ 2
            · rw [pwithin_t c5, if_pos (by decide)]
              exact absurd (by grind) c
            · rw [pwithin_f c5, if_neg (by decide)]
          · rw [pwithin_f c4, if_pos rfl]
        · rw [pwithin_f c3, if_pos rfl]
      · rw [xNotes g hX, if_neg c2, if_neg (by decide)]
    · rw [xNotes g hX, if_neg c1, if_pos rfl]
  · rw [xText_f g hX c0, if_pos rfl]
theorem nM_fit {w : Wd} {σ : Zm} (g : GI w) (hM : MI w σ) (x1 x2 x3 x4 x5 x6 x7 : Int) (c : ¬ ((0 ≤ x1 ∧ x1 < wN w 1) ∧ (0 ≤ x2 ∧ x2 ≤ 5 ∧ 0 < lbt (wU w x2.toNat)) ∧ (0 ≤ x3 ∧ x3 ≤ 5 ∧ 0 < lbt (wU w x3.toNat)) ∧ ((-12) ≤ x4 ∧ x4 ≤ 12) ∧ (0 ≤ x5 ∧ x5 ≤ 8) ∧ (1 ≤ x7 ∧ x7 ≤ 2))) : fM_fit σ x1 x2 x3 x4 x5 x6 x7 = some ((-1), σ) := by
  unfold fM_fit
  by_cases c0 : 0 ≤ x1 ∧ x1 < wN w 1
  · rw [mText_t g hM c0, if_neg (by decide)]
    by_cases c1 : (0 ≤ x2 ∧ x2 ≤ 5 ∧ 0 < lbt (wU w x2.toNat)) ∧ (0 ≤ x3 ∧ x3 ≤ 5 ∧ 0 < lbt (wU w x3.toNat))
    · rw [mAre g hM, if_pos c1, if_neg (by decide)]
      by_cases c2 : (-12) ≤ x4 ∧ x4 ≤ 12
      · rw [mIn_t c2, if_neg (by decide)]
        by_cases c3 : 0 ≤ x5 ∧ x5 ≤ 8
        · rw [mIn_t c3, if_neg (by decide)]
          by_cases c4 : 1 ≤ x7 ∧ x7 ≤ 2
          · rw [mIn_t c4, if_pos (by decide)]
            exact absurd (by grind) c
          · rw [mIn_f c4, if_neg (by decide)]
        · rw [mIn_f c3, if_pos rfl]
      · rw [mIn_f c2, if_pos rfl]
    · rw [mAre g hM, if_neg c1, if_pos rfl]
  · rw [mText_f g hM c0, if_pos rfl]
theorem st_fit (x1 x2 x3 x4 x5 x6 x7 : Int) : St (fun σ => fX_fit σ x1 x2 x3 x4 x5 x6 x7) (fun σ => fM_fit σ x1 x2 x3 x4 x5 x6 x7) := by
  intro σ h
  have hI := h
  obtain ⟨w, p, g, gp, hX, hM, hXT, hMP⟩ := h
  by_cases c : (0 ≤ x1 ∧ x1 < wN w 1) ∧ (0 ≤ x2 ∧ x2 ≤ 5 ∧ 0 < lbt (wU w x2.toNat)) ∧ (0 ≤ x3 ∧ x3 ≤ 5 ∧ 0 < lbt (wU w x3.toNat)) ∧ ((-12) ≤ x4 ∧ x4 ≤ 12) ∧ (0 ≤ x5 ∧ x5 ≤ 8) ∧ (1 ≤ x7 ∧ x7 ≤ 2)
  · obtain ⟨c1, c2, c3, c4, c5, c6⟩ := c
    have hn := (GI_n g).2.1
    obtain ⟨x, rfl, hx⟩ := nat_of (x := x1) (n := 6) (by omega)
    obtain ⟨s, rfl, hs⟩ := nat_of (x := x2) (n := 6) (by omega)
    obtain ⟨r, rfl, hr⟩ := nat_of (x := x3) (n := 6) (by omega)
    obtain ⟨d, rfl, hd⟩ := nat_of (x := x5) (n := 9) (by omega)
    obtain ⟨m, rfl, hm⟩ := nat_of (x := x7) (n := 3) (by omega)
    obtain ⟨f, hf, e1, e2⟩ := fit_at (tr := x6) c4 (show d ≤ 8 by omega) (show m = 1 ∨ m = 2 by omega)
    have hl := wTl hX hx c1.2
    have main : ∀ σ1, zfo oF σ σ1 → fok (225 + 6 * x) (wT w x) (wN w 0) (wU w s) σ1 → zwp (fX_fit_125 (x : Int) (r : Int) (f : Int) σ1) (fun r1 σ1 => zwp (fM_fit σ1 (x : Int) (s : Int) (r : Int) x4 (d : Int) x6 (m : Int)) (fun r2 σ2 => r1 = r2 ∧ Inv σ2)) := by
      intro σ1 f1 k1
      have g1 : zfo scX σ σ1 := zIn f1 (fun q z => oF_sc z)
      obtain ⟨r1, r2⟩ := ru_R hx
      unfold fX_fit_125
      rw [zckj (by omega) (by omega), zckj (by omega) (by omega), Int.toNat_natCast, Int.toNat_natCast, r2, (xSub g hX hr).2.1, zwp_bi]
      refine zwp_mono (qF_priceOf σ1 k1 r1 (xSub2 g hX hr g1) hf 2147483647) (fun z σ2 ⟨f2, k2, q2, q3, _⟩ => ?_)
      rw [q3, zwp_some]
      have hb := fpr_bd hl (wU w s) (wU w r) (wN w 0) f
      have hz : z = fpr (wT w x) (wU w s) (wU w r) (wN w 0) f := by
        rw [k1.2.2.1] at q2
        unfold fpr at hb ⊢
        have := q2.2.2.1 (by omega)
        omega
      have g2 : zfo scX σ σ2 := g1.tr (zIn f2 (fun q z => oFp_sc z))
      have hM2 := MI_sX hM g2
      unfold fM_fit
      rw [mText_t g hM2 c1, if_neg (by decide), mAre g hM2, if_pos ⟨c2, c3⟩, if_neg (by decide), mIn_t c4, if_neg (by decide), mIn_t c5, if_neg (by decide), mIn_t c6, if_pos (by decide)]
      rw [zwp_bv]
      refine zwp_mono (qM_clearSheet σ2) (fun _ σ3 ⟨f3, b3⟩ => ?_)
      have hM3 : MI w σ3 := MI_fo hM2 f3 (by unfold oSh; omega) (by unfold oSh; omega) (by unfold oSh; omega)
      rw [zwp_bv]
      refine zwp_mono (qM_takeForm s hs (g.1.2.1 s) 0 (by omega) 0 (by omega) 0 (by omega) 0 1 (Or.inl rfl) σ3 b3 hM3.1.2.1) (fun _ σ4 ⟨f4, b4⟩ => ?_)
      rw [lff_12] at b4
      have hM4 : MI w σ4 := MI_fo hM3 f4 (by unfold oSh; omega) (by unfold oSh; omega) (by unfold oSh; omega)
      rw [zwp_bv]
      refine zwp_mono (qM_takeForm r hr (g.1.2.1 r) 1 (by omega) x4 c4 d (by omega) x6 m (by omega) σ4 b4 hM4.1.2.1) (fun _ σ5 ⟨f5, b5⟩ => ?_)
      rw [e2] at b5
      have hM5 : MI w σ5 := MI_fo hM4 f5 (by unfold oSh; omega) (by unfold oSh; omega) (by unfold oSh; omega)
      rw [zwp_bi]
      refine zwp_mono (qM_judge (mJok g hM5 hx c1.2 b5 (fun v hv => ?_)) 0 (by omega) (-1) rfl) (fun u σ6 ⟨f6, k6, l6, e6, e7⟩ => ?_)
      · unfold updl
        split
        · exact lfo_sm (lss_U g r).1 f
        · split
          · exact lfo_sm (lss_U g s).1 12
          · exact zln_sm
      · have hu : u = fpr (wT w x) (wU w s) (wU w r) (wN w 0) f := by
          rw [e7, lsum_two rfl rfl]
          unfold fpr at hb ⊢
          show zw (lq (wT w x) (lfo (wU w s) 12) (wN w 0) 32 0 + lq (wT w x) (lfo (wU w r) f) (wN w 0) 32 0 + pq (wT w x) (lfo (wU w s) 12) (lfo (wU w r) f) (wN w 0) 32 0) = _
          exact zwj (by omega) (by omega)
        rw [zwp_some]
        refine ⟨by rw [hz, hu, zwj (by omega) (by omega)], Inv_sc hI g2 (((((f3.mono (fun q z => ?_)).tr (f4.mono (fun q z => ?_))).tr (f5.mono (fun q z => ?_))).tr (f6.mono (fun q z => ?_)))) (fun k a b => ?_)⟩
        · unfold oSh at z; unfold scM; omega
        · unfold oSh at z; unfold scM; omega
        · unfold oSh at z; unfold scM; omega
        · unfold oMJ at z; unfold scM; omega
        · rw [k6 k (by omega) (by omega) (by omega), f5.rd (by unfold oSh; omega), f4.rd (by unfold oSh; omega), f3.rd (by unfold oSh; omega)]
    show zwp (fX_fit σ (x : Int) (s : Int) (r : Int) x4 (d : Int) x6 (m : Int)) _
    unfold fX_fit
    rw [xText_t g hX c1, if_neg (by decide), xNotes g hX, if_pos c2, if_neg (by decide), xNotes g hX, if_pos c3, if_pos (by decide), pwithin_t c4, if_neg (by decide), pwithin_t c5, if_neg (by decide), pwithin_t c6, if_pos (by decide)]
    refine xBegin g hX hx c1.2 hs (fun σ1 f1 k1 => ?_)
    by_cases d6 : x6 = 0
    · rw [if_pos d6] at e1
      rw [if_pos d6, zwp_let, show zw ((((((m : Int) - 1) * 450) + 0) + ((d : Int) * 25)) + x4 + 12) = (f : Int) by rw [zwj (by omega) (by omega)]; omega]
      exact main σ1 f1 k1
    · rw [if_neg d6] at e1
      rw [if_neg d6, zwp_let, show zw ((((((m : Int) - 1) * 450) + 225) + ((d : Int) * 25)) + x4 + 12) = (f : Int) by rw [zwj (by omega) (by omega)]; omega]
      exact main σ1 f1 k1
  · exact St_neg hI (nX_fit g hX x1 x2 x3 x4 x5 x6 x7 c) (nM_fit g hM x1 x2 x3 x4 x5 x6 x7 c)
theorem qX_formCode (σ : Zm) (f : Nat) (hf : f < 900) : fX_formCode σ (f : Int) = some (fcode f, σ) := by
  unfold fX_formCode
  dsimp only [zlet]
  rw [show Int.tmod (f : Int) 25 = ((f % 25 : Nat) : Int) from rfl, show Int.tdiv (f : Int) 25 = ((f / 25 : Nat) : Int) from rfl, show Int.tdiv (f : Int) 225 = ((f / 225 : Nat) : Int) from rfl, show Int.tdiv (f : Int) 450 = ((f / 450 : Nat) : Int) from rfl]
  rw [zwj (a := ((f / 25 : Nat) : Int)) (by omega) (by omega), show Int.tmod ((f / 25 : Nat) : Int) 9 = ((f / 25 % 9 : Nat) : Int) from rfl, zwj (a := ((f / 225 : Nat) : Int)) (by omega) (by omega), show Int.tmod ((f / 225 : Nat) : Int) 2 = ((f / 225 % 2 : Nat) : Int) from rfl, zwj (a := ((f % 25 : Nat) : Int)) (by omega) (by omega), zwj (a := ((f / 25 % 9 : Nat) : Int)) (by omega) (by omega), zwj (a := ((f / 225 % 2 : Nat) : Int)) (by omega) (by omega)]
  refine congrArg some (Prod.ext ?_ rfl)
  unfold fcode
  show ((10000 : Int) * ((f / 450 : Nat) : Int)) + (5000 * ((f / 225 % 2 : Nat) : Int)) + (100 * ((f / 25 % 9 : Nat) : Int)) + ((f % 25 : Nat) : Int) = _
  omega
theorem fitf_last {P : Nat → Int} {limit i : Int} {f : Nat} (c : P f ≤ limit) (c2 : (fitf P limit i f).1 = i) : ∀ n : Nat, f < n → (fitf P limit i n).2 = fcode f := by
  have h : ∀ d : Nat, (fitf P limit i (f + 1 + d)).2 = fcode f ∧ i < (fitf P limit i (f + 1 + d)).1 := by
    intro d
    induction d with
    | zero =>
      have e : fitf P limit i (f + 1) = ((fitf P limit i f).1 + 1, fcode f) := by
        show (if P f ≤ limit then _ else _) = _
        rw [if_pos c, if_pos c2]
      rw [Nat.add_zero, e]
      exact ⟨rfl, by simp only []; omega⟩
    | succ d ih =>
      have e : fitf P limit i (f + 1 + (d + 1)) = if P (f + 1 + d) ≤ limit then ((fitf P limit i (f + 1 + d)).1 + 1, if (fitf P limit i (f + 1 + d)).1 = i then fcode (f + 1 + d) else (fitf P limit i (f + 1 + d)).2) else fitf P limit i (f + 1 + d) := rfl
      rw [e]
      split
      · rw [if_neg (by omega)]
        exact ⟨ih.1, by simp only []; omega⟩
      · exact ih
  intro n hn
  have := (h (n - f - 1)).1
  rwa [show f + 1 + (n - f - 1) = n by omega] at this
theorem pX_fits_78 {x r : Nat} {T : List Cl} {bar : Int} {one a : Ln} {limit i : Int} (hx : x < 6) (hr : r < 6) (hTl : T.length ≤ 10) (hi : -1 ≤ i) (hz : zRF 3 r = 57 + 3 * r) (σ0 : Zm) (hs : sok (57 + 3 * r) a σ0) (P : Int → Zm → Prop) (K : Int → Int → Zm → Zr) (hK : ∀ σ', zfo oFp σ0 σ' → (fitf (fpr T one a bar) limit i 900).2 = -1 → zwp (K i (fitf (fpr T one a bar) limit i 900).1 σ') P) (hR : ∀ σ', zfo oFp σ0 σ' → 0 ≤ i → P (fitf (fpr T one a bar) limit i 900).2 σ') : ∀ (d m f : Nat) (σ : Zm), d < m → f + d = 900 → zfo oFp σ0 σ → fok (225 + 6 * x) T bar one σ → (fitf (fpr T one a bar) limit i f).2 = -1 → (0 ≤ i → (fitf (fpr T one a bar) limit i f).1 ≤ i) → zwp (fX_fits_78 m (x : Int) (r : Int) limit i (fitf (fpr T one a bar) limit i f).1 (f : Int) σ K) P
  | 0, m + 1, f, σ, _, hf, h1, h2, h3, h4 => by
    have : f = 900 := by omega
    subst this
    rw [fX_fits_78]
    simp only [zwp_let]
    rw [if_pos (by decide)]
    exact hK σ h1 h3
  | d + 1, m + 1, f, σ, hm, hf, h1, h2, h3, h4 => by
    obtain ⟨r1, r2⟩ := ru_R hx
    have hb := fpr_bd hTl one a bar f
    have hq := fitf_bd (fpr T one a bar) limit i f
    rw [fX_fits_78]
    simp only [zwp_let]
    rw [if_neg (by omega), zckj (by omega) (by omega), zckj (by omega) (by omega), Int.toNat_natCast, Int.toNat_natCast, r2, hz, zwp_bi]
    refine zwp_mono (qF_priceOf σ h2 r1 (sok_fo hs h1 (by unfold oFp; omega) (by unfold oFp; omega)) (show f < 900 by omega) limit) (fun z σ2 ⟨f2, k2, q2, q3, _⟩ => ?_)
    rw [q3]
    have hc : z ≤ limit ↔ fpr T one a bar f ≤ limit := by
      rw [h2.2.2.1] at q2
      obtain ⟨u1, u2, u3, u4⟩ := q2
      unfold fpr
      constructor
      · intro q
        by_cases v : lq T (lfo one 12) bar 32 0 + lq T (lfo a f) bar 32 0 + pq T (lfo one 12) (lfo a f) bar 32 0 ≤ limit
        · exact v
        · have := u4 (by omega); omega
      · intro q
        have := u3 (by omega); omega
    by_cases c : fpr T one a bar f ≤ limit
    · rw [if_pos (hc.2 c)]
      by_cases c2 : (fitf (fpr T one a bar) limit i f).1 = i
      · rw [ifnn c2]
        have e : fX_formCode σ2 (f : Int) = some (fcode f, σ2) := qX_formCode σ2 f (by omega)
        have hcb := fcode_bd f (by omega)
        rw [zbi_eq e, zwj (a := fcode f) (by omega) (by omega), zwp_some]
        have hfin := fitf_last (P := fpr T one a bar) (limit := limit) (i := i) (f := f) c c2 900 (by omega)
        rw [← hfin]
        exact hR σ2 (h1.tr f2) (by omega)
      · rw [if_pos c2, zwj (a := (fitf (fpr T one a bar) limit i f).1 + 1) (by omega) (by omega), show zw ((f : Int) + 1) = ((f + 1 : Nat) : Int) by rw [zwj (by omega) (by omega)]; omega]
        have e : fitf (fpr T one a bar) limit i (f + 1) = ((fitf (fpr T one a bar) limit i f).1 + 1, (fitf (fpr T one a bar) limit i f).2) := by
          show (if fpr T one a bar f ≤ limit then _ else _) = _
          rw [if_pos c, if_neg c2]
        have := pX_fits_78 (one := one) (a := a) (bar := bar) (limit := limit) hx hr hTl hi  hz σ0 hs P K hK hR d m (f + 1) σ2 (by omega) (by omega) (h1.tr f2) k2 (by rw [e]; exact h3) (fun q => by rw [e]; have := h4 q; simp only []; omega)
        rw [e] at this
        exact this
    · rw [if_neg (fun q => c (hc.1 q)), show zw ((f : Int) + 1) = ((f + 1 : Nat) : Int) by rw [zwj (by omega) (by omega)]; omega]
      have e : fitf (fpr T one a bar) limit i (f + 1) = fitf (fpr T one a bar) limit i f := by
        show (if fpr T one a bar f ≤ limit then _ else _) = _
        rw [if_neg c]
      have := pX_fits_78 (one := one) (a := a) (bar := bar) (limit := limit) hx hr hTl hi  hz σ0 hs P K hK hR d m (f + 1) σ2 (by omega) (by omega) (h1.tr f2) k2 (by rw [e]; exact h3) (fun q => by rw [e]; exact h4 q)
      rw [e] at this
      exact this
theorem nX_fits {w : Wd} {σ : Zm} (g : GI w) (hX : XI w σ) (x1 x2 x3 x4 x5 : Int) (c : ¬ ((0 ≤ x1 ∧ x1 < wN w 1) ∧ (0 ≤ x2 ∧ x2 ≤ 5 ∧ 0 < lbt (wU w x2.toNat)) ∧ (0 ≤ x3 ∧ x3 ≤ 5 ∧ 0 < lbt (wU w x3.toNat)) ∧ (0 ≤ x4 ∧ x4 ≤ 1000000) ∧ ((-1) ≤ x5))) : fX_fits σ x1 x2 x3 x4 x5 = some ((-1), σ) := by
  unfold fX_fits
  by_cases c0 : 0 ≤ x1 ∧ x1 < wN w 1
  · rw [xText_t g hX c0, if_neg (by decide)]
    by_cases c1 : 0 ≤ x2 ∧ x2 ≤ 5 ∧ 0 < lbt (wU w x2.toNat)
    · rw [xNotes g hX, if_pos c1, if_neg (by decide)]
      by_cases c2 : 0 ≤ x3 ∧ x3 ≤ 5 ∧ 0 < lbt (wU w x3.toNat)
      · rw [xNotes g hX, if_pos c2, if_neg (by decide)]
        by_cases c3 : 0 ≤ x4 ∧ x4 ≤ 1000000
        · rw [pwithin_t c3, if_neg (by decide)]
          by_cases c4 : (-1) ≤ x5
          · rw [if_pos c4]
            exact absurd (by grind) c
          · rw [if_neg c4]
        · rw [pwithin_f c3, if_pos rfl]
      · rw [xNotes g hX, if_neg c2, if_pos rfl]
    · rw [xNotes g hX, if_neg c1, if_pos rfl]
  · rw [xText_f g hX c0, if_pos rfl]
theorem nM_fits {w : Wd} {σ : Zm} (g : GI w) (hM : MI w σ) (x1 x2 x3 x4 x5 : Int) (c : ¬ ((0 ≤ x1 ∧ x1 < wN w 1) ∧ (0 ≤ x2 ∧ x2 ≤ 5 ∧ 0 < lbt (wU w x2.toNat)) ∧ (0 ≤ x3 ∧ x3 ≤ 5 ∧ 0 < lbt (wU w x3.toNat)) ∧ (0 ≤ x4 ∧ x4 ≤ 1000000) ∧ ((-1) ≤ x5))) : fM_fits σ x1 x2 x3 x4 x5 = some ((-1), σ) := by
  unfold fM_fits
  by_cases c0 : 0 ≤ x1 ∧ x1 < wN w 1
  · rw [mText_t g hM c0, if_neg (by decide)]
    by_cases c1 : (0 ≤ x2 ∧ x2 ≤ 5 ∧ 0 < lbt (wU w x2.toNat)) ∧ (0 ≤ x3 ∧ x3 ≤ 5 ∧ 0 < lbt (wU w x3.toNat))
    · rw [mAre g hM, if_pos c1, if_neg (by decide)]
      by_cases c2 : 0 ≤ x4 ∧ x4 ≤ 1000000
      · rw [mLimit_t c2, if_neg (by decide)]
        by_cases c3 : (-1) ≤ x5
        · rw [if_pos c3]
          exact absurd (by grind) c
        · rw [if_neg c3]
      · rw [mLimit_f c2, if_pos rfl]
    · rw [mAre g hM, if_neg c1, if_pos rfl]
  · rw [mText_f g hM c0, if_pos rfl]
theorem st_fits (x1 x2 x3 x4 x5 : Int) (h5 : zw x5 = x5) : St (fun σ => fX_fits σ x1 x2 x3 x4 x5) (fun σ => fM_fits σ x1 x2 x3 x4 x5) := by
  intro σ h
  have hI := h
  obtain ⟨w, p, g, gp, hX, hM, hXT, hMP⟩ := h
  by_cases c : (0 ≤ x1 ∧ x1 < wN w 1) ∧ (0 ≤ x2 ∧ x2 ≤ 5 ∧ 0 < lbt (wU w x2.toNat)) ∧ (0 ≤ x3 ∧ x3 ≤ 5 ∧ 0 < lbt (wU w x3.toNat)) ∧ (0 ≤ x4 ∧ x4 ≤ 1000000) ∧ ((-1) ≤ x5)
  · obtain ⟨c1, c2, c3, c4, c5⟩ := c
    have hn := (GI_n g).2.1
    obtain ⟨x, rfl, hx⟩ := nat_of (x := x1) (n := 6) (by omega)
    obtain ⟨s, rfl, hs⟩ := nat_of (x := x2) (n := 6) (by omega)
    obtain ⟨r, rfl, hr⟩ := nat_of (x := x3) (n := 6) (by omega)
    have hl := wTl hX hx c1.2
    have key : ∀ (z : Int) (σ1 : Zm), zfo scX σ σ1 → z = (if x5 = -1 then (fitf (fpr (wT w x) (wU w s) (wU w r) (wN w 0)) x4 x5 900).1 else (fitf (fpr (wT w x) (wU w s) (wU w r) (wN w 0)) x4 x5 900).2) → zwp (fM_fits σ1 (x : Int) (s : Int) (r : Int) x4 x5) (fun r2 σ2 => z = r2 ∧ Inv σ2) := by
      intro z σ1 f1 hz
      have hM1 := MI_sX hM f1
      unfold fM_fits
      rw [mText_t g hM1 c1, if_neg (by decide), mAre g hM1, if_pos ⟨c2, c3⟩, if_neg (by decide), mLimit_t c4, if_neg (by decide), if_pos c5]
      refine mPrep g hM1 hx c1.2 hs hr (fun σ2 f2 e2 k2 => ?_)
      rw [zwp_bv]
      refine zwp_mono (qM_goThrough (lss_U g s) (lss_U g r) x4 x5 h5 σ2 k2) (fun _ σ3 ⟨f3, k3, a1, a2, a3, a4, a5⟩ => ?_)
      have hI3 : Inv σ3 := Inv_sc hI f1 (f2.tr (f3.mono (fun q z => oMg_sc z))) (fun k a b => by rw [a5 k (by omega), e2 k (by omega)])
      by_cases d : x5 = -1
      · rw [if_pos d] at hz
        rw [ifnn d, zwp_let, zwp_some, a1]
        exact ⟨hz, hI3⟩
      · rw [if_neg d] at hz
        rw [if_pos d, zwp_let, zwp_some, a2]
        exact ⟨hz, hI3⟩
    show zwp (fX_fits σ (x : Int) (s : Int) (r : Int) x4 x5) _
    unfold fX_fits
    rw [xText_t g hX c1, if_neg (by decide), xNotes g hX, if_pos c2, if_neg (by decide), xNotes g hX, if_pos c3, if_neg (by decide), pwithin_t c4, if_neg (by decide), if_pos c5]
    refine xBegin g hX hx c1.2 hs (fun σ1 f1 k1 => ?_)
    have g1 : zfo scX σ σ1 := zIn f1 (fun q z => oF_sc z)
    refine pX_fits_78 (one := wU w s) (a := wU w r) (bar := wN w 0) (limit := x4) hx hr hl c5 (xSub g hX hr).2.1 σ1 (xSub2 g hX hr g1) _ _ (fun σ2 f2 e => ?_) (fun σ2 f2 e => ?_) 900 5000 0 σ1 (by omega) (by omega) zfo.rf k1 rfl (fun q => q)
    · by_cases d : x5 = -1
      · rw [ifnn d, zwp_some]
        exact key _ σ2 (g1.tr (zIn f2 (fun q z => oFp_sc z))) (by rw [if_pos d])
      · rw [if_pos d, zwp_some]
        exact key _ σ2 (g1.tr (zIn f2 (fun q z => oFp_sc z))) (by rw [if_neg d, e])
    · exact key _ σ2 (g1.tr (zIn f2 (fun q z => oFp_sc z))) (by rw [if_neg (by omega)])
  · exact St_neg hI (nX_fits g hX x1 x2 x3 x4 x5 c) (nM_fits g hM x1 x2 x3 x4 x5 c)
theorem bst_lst (P : Nat → Int) (hP : ∀ k, 0 ≤ P k ∧ P k ≤ 2000000000) : ∀ n : Nat, 1 ≤ n → n ≤ 900 → (lstf P n).1 = (bst P n).1 ∧ (lstf P n).2 = fcode (bst P n).2.toNat ∧ 0 ≤ (bst P n).2 ∧ (bst P n).2 < n
  | 0, h, _ => by omega
  | n + 1, _, hn => by
    have hp := hP n
    by_cases c0 : n = 0
    · subst c0
      have e1 : lstf P 1 = (P 0, fcode 0) := if_pos (c := (lstf P 0).1 < 0 ∨ P 0 < (lstf P 0).1) (Or.inl (show (-1 : Int) < 0 by decide))
      have e2 : bst P 1 = (P 0, ((0 : Nat) : Int)) := if_pos (c := P 0 < (bst P 0).1) (show P 0 < 2147483647 by omega)
      rw [e1, e2]
      exact ⟨rfl, rfl, Int.le_refl _, show (0 : Int) < 1 by decide⟩
    · obtain ⟨i1, i2, i3, i4⟩ := bst_lst P hP n (by omega) (by omega)
      have hb := (bst_bd P (fun k => (hP k).1) n)
      have e1 : lstf P (n + 1) = if (lstf P n).1 < 0 ∨ P n < (lstf P n).1 then (P n, fcode n) else lstf P n := rfl
      have e2 : bst P (n + 1) = if P n < (bst P n).1 then (P n, (n : Int)) else bst P n := rfl
      rw [e1, e2, i1]
      by_cases c : P n < (bst P n).1
      · rw [if_pos (Or.inr c), if_pos c]
        exact ⟨rfl, by rw [Int.toNat_natCast], by omega, by omega⟩
      · rw [if_neg (by omega), if_neg c]
        exact ⟨i1, i2, i3, by omega⟩
/-- no cheaper one is left -/
theorem bst_end {P : Nat → Int} (h0 : ∀ k, 0 ≤ P k) {i : Nat} {e : Int} (he : e ≤ 0) (hi : i ≤ 900) (h : i = 900 ∨ (bst P i).1 ≤ max 0 e) : bst P i = bst P 900 := by
  rcases h with h | h
  · rw [h]
  · exact (bst_st P 900 (fun k => by have := h0 k; omega) hi).symm
theorem nX_cheapest {w : Wd} {σ : Zm} (g : GI w) (hX : XI w σ) (x1 x2 x3 x4 : Int) (c : ¬ ((0 ≤ x1 ∧ x1 < wN w 1) ∧ (0 ≤ x2 ∧ x2 ≤ 5 ∧ 0 < lbt (wU w x2.toNat)) ∧ (0 ≤ x3 ∧ x3 ≤ 5 ∧ 0 < lbt (wU w x3.toNat)) ∧ (0 ≤ x4 ∧ x4 ≤ 1))) : fX_cheapest σ x1 x2 x3 x4 = some ((-1), σ) := by
  unfold fX_cheapest
  by_cases c0 : 0 ≤ x1 ∧ x1 < wN w 1
  · rw [xText_t g hX c0, if_neg (by decide)]
    by_cases c1 : 0 ≤ x2 ∧ x2 ≤ 5 ∧ 0 < lbt (wU w x2.toNat)
    · rw [xNotes g hX, if_pos c1, if_neg (by decide)]
      by_cases c2 : 0 ≤ x3 ∧ x3 ≤ 5 ∧ 0 < lbt (wU w x3.toNat)
      · rw [xNotes g hX, if_pos c2, if_neg (by decide)]
        by_cases c3 : 0 ≤ x4 ∧ x4 ≤ 1
        · rw [pwithin_t c3, if_pos (by decide)]
          exact absurd (by grind) c
        · rw [pwithin_f c3, if_neg (by decide)]
      · rw [xNotes g hX, if_neg c2, if_pos rfl]
    · rw [xNotes g hX, if_neg c1, if_pos rfl]
  · rw [xText_f g hX c0, if_pos rfl]
theorem nM_cheapest {w : Wd} {σ : Zm} (g : GI w) (hM : MI w σ) (x1 x2 x3 x4 : Int) (c : ¬ ((0 ≤ x1 ∧ x1 < wN w 1) ∧ (0 ≤ x2 ∧ x2 ≤ 5 ∧ 0 < lbt (wU w x2.toNat)) ∧ (0 ≤ x3 ∧ x3 ≤ 5 ∧ 0 < lbt (wU w x3.toNat)) ∧ (0 ≤ x4 ∧ x4 ≤ 1))) : fM_cheapest σ x1 x2 x3 x4 = some ((-1), σ) := by
  unfold fM_cheapest
  by_cases c0 : 0 ≤ x1 ∧ x1 < wN w 1
  · rw [mText_t g hM c0, if_neg (by decide)]
    by_cases c1 : (0 ≤ x2 ∧ x2 ≤ 5 ∧ 0 < lbt (wU w x2.toNat)) ∧ (0 ≤ x3 ∧ x3 ≤ 5 ∧ 0 < lbt (wU w x3.toNat))
    · rw [mAre g hM, if_pos c1, if_neg (by decide)]
      by_cases c2 : 0 ≤ x4 ∧ x4 ≤ 1
      · rw [mIn_t c2, if_pos (by decide)]
        exact absurd (by grind) c
      · rw [mIn_f c2, if_neg (by decide)]
    · rw [mAre g hM, if_neg c1, if_pos rfl]
  · rw [mText_f g hM c0, if_pos rfl]
theorem st_cheapest (x1 x2 x3 x4 : Int) : St (fun σ => fX_cheapest σ x1 x2 x3 x4) (fun σ => fM_cheapest σ x1 x2 x3 x4) := by
  intro σ h
  have hI := h
  obtain ⟨w, p, g, gp, hX, hM, hXT, hMP⟩ := h
  by_cases c : (0 ≤ x1 ∧ x1 < wN w 1) ∧ (0 ≤ x2 ∧ x2 ≤ 5 ∧ 0 < lbt (wU w x2.toNat)) ∧ (0 ≤ x3 ∧ x3 ≤ 5 ∧ 0 < lbt (wU w x3.toNat)) ∧ (0 ≤ x4 ∧ x4 ≤ 1)
  · obtain ⟨c1, c2, c3, c4⟩ := c
    have hn := (GI_n g).2.1
    obtain ⟨x, rfl, hx⟩ := nat_of (x := x1) (n := 6) (by omega)
    obtain ⟨s, rfl, hs⟩ := nat_of (x := x2) (n := 6) (by omega)
    obtain ⟨r, rfl, hr⟩ := nat_of (x := x3) (n := 6) (by omega)
    have hl := wTl hX hx c1.2
    have hP : ∀ k, 0 ≤ fpr (wT w x) (wU w s) (wU w r) (wN w 0) k ∧ fpr (wT w x) (wU w s) (wU w r) (wN w 0) k ≤ 2000000000 := fun k => by have := fpr_bd hl (wU w s) (wU w r) (wN w 0) k; omega
    obtain ⟨b1, b2, b3, b4⟩ := bst_lst _ hP 900 (by omega) (by omega)
    have key : ∀ (z : Int) (σ1 : Zm), zfo scX σ σ1 → z = (if x4 = 0 then (lstf (fpr (wT w x) (wU w s) (wU w r) (wN w 0)) 900).1 else (lstf (fpr (wT w x) (wU w s) (wU w r) (wN w 0)) 900).2) → zwp (fM_cheapest σ1 (x : Int) (s : Int) (r : Int) x4) (fun r2 σ2 => z = r2 ∧ Inv σ2) := by
      intro z σ1 f1 hz
      have hM1 := MI_sX hM f1
      unfold fM_cheapest
      rw [mText_t g hM1 c1, if_neg (by decide), mAre g hM1, if_pos ⟨c2, c3⟩, if_neg (by decide), mIn_t c4, if_pos (by decide)]
      refine mPrep g hM1 hx c1.2 hs hr (fun σ2 f2 e2 k2 => ?_)
      rw [zwp_bv]
      refine zwp_mono (qM_goThrough (lss_U g s) (lss_U g r) 0 (-1) rfl σ2 k2) (fun _ σ3 ⟨f3, k3, a1, a2, a3, a4, a5⟩ => ?_)
      have hI3 : Inv σ3 := Inv_sc hI f1 (f2.tr (f3.mono (fun q z => oMg_sc z))) (fun k a b => by rw [a5 k (by omega), e2 k (by omega)])
      by_cases d : x4 = 0
      · rw [if_pos d] at hz
        rw [ifnn d, zwp_let, zwp_some, a3]
        exact ⟨hz, hI3⟩
      · rw [if_neg d] at hz
        rw [if_pos d, zwp_let, zwp_some, a4]
        exact ⟨hz, hI3⟩
    show zwp (fX_cheapest σ (x : Int) (s : Int) (r : Int) x4) _
    unfold fX_cheapest
    rw [xText_t g hX c1, if_neg (by decide), xNotes g hX, if_pos c2, if_neg (by decide), xNotes g hX, if_pos c3, if_neg (by decide), pwithin_t c4, if_pos (by decide)]
    refine xBegin g hX hx c1.2 hs (fun σ1 f1 k1 => ?_)
    have g1 : zfo scX σ σ1 := zIn f1 (fun q z => oF_sc z)
    obtain ⟨r1, r2⟩ := ru_R hx
    rw [zckj (by omega) (by omega), zckj (by omega) (by omega), Int.toNat_natCast, Int.toNat_natCast, r2, (xSub g hX hr).2.1, zwp_bv]
    refine zwp_mono (qF_findCheapest r1 σ1 (xSub2 g hX hr g1) (-1) k1) (fun _ σ2 ⟨f2, k2, i, hi, e1, e2, e3⟩ => ?_)
    have g2 : zfo scX σ σ2 := g1.tr (zIn f2 (fun q z => by rcases z with z | z; exact oFp_sc z; unfold scX; omega))
    rw [bst_end (fun k => (hP k).1) (by omega) hi e3] at e1 e2
    by_cases d : x4 = 0
    · rw [ifnn d, zwp_let, zwp_some]
      exact key _ σ2 g2 (by rw [if_pos d, e1, b1])
    · obtain ⟨q, hq⟩ : ∃ q : Nat, (bst (fpr (wT w x) (wU w s) (wU w r) (wN w 0)) 900).2 = (q : Int) := ⟨_, (Int.toNat_of_nonneg b3).symm⟩
      rw [hq] at e2 b2 b4
      have hcb := fcode_bd q (by omega)
      rw [if_pos d, zwp_let, e2, zbi_eq (qX_formCode σ2 q (by omega)), zwj (a := fcode q) (by omega) (by omega), zwp_some]
      exact key _ σ2 g2 (by rw [if_neg d, b2, Int.toNat_natCast])
  · exact St_neg hI (nX_cheapest g hX x1 x2 x3 x4 c) (nM_cheapest g hM x1 x2 x3 x4 c)

/-! MY OWN: what ties the class's memory to the reference's -/
abbrev Wd : Type := ((Nat → Ln) × (Nat → Ln) × (Nat → Int)) × ((Nat → Ln) × (Nat → Ln) × (Nat → Int)) × (Nat → List Cl)
def wV (w : Wd) : Nat → Ln := w.1.1
def wU (w : Wd) : Nat → Ln := w.1.2.1
def wN (w : Wd) : Nat → Int := w.1.2.2
def wT (w : Wd) : Nat → List Cl := w.2.2
def XI (w : Wd) (σ : Zm) : Prop := XS 1 σ (wV w) (wU w) (wN w) ∧ XS 75 σ w.2.1.1 w.2.1.2.1 w.2.1.2.2 ∧ ∀ i : Nat, i < 6 → (i : Int) < wN w 1 → TRc σ (225 + 6 * i) (wT w i)
def MI (w : Wd) (σ : Zm) : Prop := MS 274 σ (wV w) (wU w) (wN w) ∧ MS 275 σ w.2.1.1 w.2.1.2.1 w.2.1.2.2 ∧ ∀ i : Nat, i < 6 → (i : Int) < wN w 1 → TRm σ i (wT w i)
def GI (w : Wd) : Prop := WS (wV w) (wU w) (wN w) ∧ WS w.2.1.1 w.2.1.2.1 w.2.1.2.2 ∧ w.2.1.2.2 1 ≤ wN w 1 ∧ ∀ i : Nat, i < 6 → (i : Int) < wN w 1 → WF (wT w i)
abbrev Tp : Type := Nat × (Nat → Int) × (Int × Int × Int)
def XT (p : Tp) (σ : Zm) : Prop := zrd σ 150 2 = (p.1 : Int) ∧ (∀ j, j < p.1 → zrd σ 151 j = p.2.1 j) ∧ zrd σ 0 11 = p.2.2.1 ∧ (p.2.2.1 ≠ 0 → zrd σ 150 3 = p.2.2.2.1 ∧ zrd σ 150 4 = p.2.2.2.2)
def MP (p : Tp) (σ : Zm) : Prop := zrd σ 273 4 = (p.1 : Int) ∧ (∀ j, j < p.1 → zrd σ 277 j = p.2.1 j) ∧ zrd σ 273 5 = (if p.2.2.1 = 0 then -1 else p.2.2.2.1) ∧ zrd σ 273 6 = (if p.2.2.1 = 0 then -1 else p.2.2.2.2)
def GT (p : Tp) : Prop := p.1 ≤ 300 ∧ (∀ j, j < p.1 → 0 ≤ p.2.1 j ∧ p.2.1 j ≤ 255) ∧ (p.2.2.1 = 0 ∨ p.2.2.1 = 1)
def Inv (σ : Zm) : Prop := ∃ w p, GI w ∧ GT p ∧ XI w σ ∧ MI w σ ∧ XT p σ ∧ MP p σ
def scX (q : Nat) : Prop := (153 ≤ q ∧ q ≤ 223) ∨ (261 ≤ q ∧ q ≤ 272)
def scM (q : Nat) : Prop := q = 273 ∨ (278 ≤ q ∧ q ≤ 293)
theorem XI_fo {D : Nat → Prop} {w : Wd} {σ σ1 : Zm} (h : XI w σ) (hf : zfo D σ σ1) (hD : ∀ q, q ≤ 148 → ¬ D q) (hD2 : ∀ q, 225 ≤ q → q ≤ 260 → ¬ D q) : XI w σ1 := by
  obtain ⟨h1, h2, h3⟩ := h
  refine ⟨XS_fo h1 hf (fun q a b => hD q (by omega)), XS_fo h2 hf (fun q a b => hD q (by omega)), fun i hi hn => TRc_fo hf (fun j hj => hD2 _ (by omega) (by omega)) (h3 i hi hn)⟩
theorem MI_fo {D : Nat → Prop} {w : Wd} {σ σ1 : Zm} (h : MI w σ) (hf : zfo D σ σ1) (hD : ¬ D 274) (hD1 : ¬ D 275) (hD2 : ¬ D 276) : MI w σ1 := by
  obtain ⟨h1, h2, h3⟩ := h
  exact ⟨MS_fo h1 hf hD, MS_fo h2 hf hD1, fun i hi hn => TRm_fo hf hD2 (h3 i hi hn)⟩
theorem XT_fo {D : Nat → Prop} {p : Tp} {σ σ1 : Zm} (h : XT p σ) (hf : zfo D σ σ1) (h1 : ¬ D 150) (h2 : ¬ D 151) (h3 : ¬ D 0) : XT p σ1 := by
  obtain ⟨a1, a2, a3, a4⟩ := h
  refine ⟨by rw [hf.rd h1]; exact a1, fun j hj => by rw [hf.rd h2]; exact a2 j hj, by rw [hf.rd h3]; exact a3, fun q => ?_⟩
  rw [hf.rd h1, hf.rd h1]
  exact a4 q
theorem MP_fo {D : Nat → Prop} {p : Tp} {σ σ1 : Zm} (h : MP p σ) (hf : zfo D σ σ1) (h1 : ∀ k, 4 ≤ k → k ≤ 6 → zrd σ1 273 k = zrd σ 273 k) (h2 : ¬ D 277) : MP p σ1 := by
  obtain ⟨a1, a2, a3, a4⟩ := h
  exact ⟨by rw [h1 4 (by omega) (by omega)]; exact a1, fun j hj => by rw [hf.rd h2]; exact a2 j hj, by rw [h1 5 (by omega) (by omega)]; exact a3, by rw [h1 6 (by omega) (by omega)]; exact a4⟩
/-- scratch memory may change -/
theorem Inv_sc {σ σ1 σ2 : Zm} (h : Inv σ) (hf : zfo scX σ σ1) (hf2 : zfo scM σ1 σ2) (h4 : ∀ k, 4 ≤ k → k ≤ 6 → zrd σ2 273 k = zrd σ1 273 k) : Inv σ2 := by
  obtain ⟨w, p, g1, g2, g3, g4, g5, g6⟩ := h
  have fa : zfo (fun q => scX q ∨ scM q) σ σ2 := (hf.mono (fun q z => Or.inl z)).tr (hf2.mono (fun q z => Or.inr z))
  refine ⟨w, p, g1, g2, XI_fo g3 fa (fun q h => by unfold scX scM; omega) (fun q h1 h2 => by unfold scX scM; omega), MI_fo g4 fa (by unfold scX scM; omega) (by unfold scX scM; omega) (by unfold scX scM; omega), XT_fo g5 fa (by unfold scX scM; omega) (by unfold scX scM; omega) (by unfold scX scM; omega), MP_fo g6 fa (fun k a b => ?_) (by unfold scX scM; omega)⟩
  rw [h4 k a b, hf.rd (by unfold scX; omega)]
theorem MI_sX {w : Wd} {σ σ1 : Zm} (h : MI w σ) (hf : zfo scX σ σ1) : MI w σ1 := MI_fo h hf (by unfold scX; omega) (by unfold scX; omega) (by unfold scX; omega)
theorem zIn {D : Nat → Prop} {σ σ1 : Zm} (h : zfo D σ σ1) (hD : ∀ q, D q → scX q) : zfo scX σ σ1 := h.mono hD
/-! checks -/
theorem xPiece_t {σ : Zm} {x : Int} {F : Int → Zm → Zr} (h : 0 ≤ x ∧ x ≤ 3) : zbi (fX_isPiece σ x) F = F 1 σ := by rw [pX_isPiece, if_pos h]; rfl
theorem xPiece_f {σ : Zm} {x : Int} {F : Int → Zm → Zr} (h : ¬ (0 ≤ x ∧ x ≤ 3)) : zbi (fX_isPiece σ x) F = F 0 σ := by rw [pX_isPiece, if_neg h]; rfl
theorem xVoice_t {σ : Zm} {x : Int} {F : Int → Zm → Zr} (h : 0 ≤ x ∧ x ≤ 3) : zbi (fX_isVoice σ x) F = F 1 σ := by rw [pX_isVoice, if_pos h]; rfl
theorem xVoice_f {σ : Zm} {x : Int} {F : Int → Zm → Zr} (h : ¬ (0 ≤ x ∧ x ≤ 3)) : zbi (fX_isVoice σ x) F = F 0 σ := by rw [pX_isVoice, if_neg h]; rfl
theorem xPitch_t {σ : Zm} {x : Int} {F : Int → Zm → Zr} (h : 0 ≤ x ∧ x ≤ 60) : zbi (fX_isPitch σ x) F = F 1 σ := by rw [pX_isPitch, if_pos h]; rfl
theorem xPitch_f {σ : Zm} {x : Int} {F : Int → Zm → Zr} (h : ¬ (0 ≤ x ∧ x ≤ 60)) : zbi (fX_isPitch σ x) F = F 0 σ := by rw [pX_isPitch, if_neg h]; rfl
theorem xSubject_t {σ : Zm} {x : Int} {F : Int → Zm → Zr} (h : 0 ≤ x ∧ x ≤ 5) : zbi (fX_isSubject σ x) F = F 1 σ := by rw [pX_isSubject, if_pos h]; rfl
theorem xSubject_f {σ : Zm} {x : Int} {F : Int → Zm → Zr} (h : ¬ (0 ≤ x ∧ x ≤ 5)) : zbi (fX_isSubject σ x) F = F 0 σ := by rw [pX_isSubject, if_neg h]; rfl
theorem xSet_t {σ : Zm} {x : Int} {F : Int → Zm → Zr} (h : 0 ≤ x ∧ x ≤ 15) : zbi (fX_isSet σ x) F = F 1 σ := by rw [pX_isSet, if_pos h]; rfl
theorem xSet_f {σ : Zm} {x : Int} {F : Int → Zm → Zr} (h : ¬ (0 ≤ x ∧ x ≤ 15)) : zbi (fX_isSet σ x) F = F 0 σ := by rw [pX_isSet, if_neg h]; rfl
theorem mPiece_t {σ : Zm} {x : Int} {F : Int → Zm → Zr} (h : 0 ≤ x ∧ x ≤ 3) : zbi (fM_isPiece σ x) F = F 1 σ := by unfold fM_isPiece; rw [mIn_t h]; rfl
theorem mPiece_f {σ : Zm} {x : Int} {F : Int → Zm → Zr} (h : ¬ (0 ≤ x ∧ x ≤ 3)) : zbi (fM_isPiece σ x) F = F 0 σ := by unfold fM_isPiece; rw [mIn_f h]; rfl
theorem mVoice_t {σ : Zm} {x : Int} {F : Int → Zm → Zr} (h : 0 ≤ x ∧ x ≤ 3) : zbi (fM_isVoice σ x) F = F 1 σ := by unfold fM_isVoice; rw [mIn_t h]; rfl
theorem mVoice_f {σ : Zm} {x : Int} {F : Int → Zm → Zr} (h : ¬ (0 ≤ x ∧ x ≤ 3)) : zbi (fM_isVoice σ x) F = F 0 σ := by unfold fM_isVoice; rw [mIn_f h]; rfl
theorem mSubject_t {σ : Zm} {x : Int} {F : Int → Zm → Zr} (h : 0 ≤ x ∧ x ≤ 5) : zbi (fM_isSubject σ x) F = F 1 σ := by unfold fM_isSubject; rw [mIn_t h]; rfl
theorem mSubject_f {σ : Zm} {x : Int} {F : Int → Zm → Zr} (h : ¬ (0 ≤ x ∧ x ≤ 5)) : zbi (fM_isSubject σ x) F = F 0 σ := by unfold fM_isSubject; rw [mIn_f h]; rfl
theorem mSet_t {σ : Zm} {x : Int} {F : Int → Zm → Zr} (h : 0 ≤ x ∧ x ≤ 15) : zbi (fM_isSet σ x) F = F 1 σ := by unfold fM_isSet; rw [mIn_t h]; rfl
theorem mSet_f {σ : Zm} {x : Int} {F : Int → Zm → Zr} (h : ¬ (0 ≤ x ∧ x ≤ 15)) : zbi (fM_isSet σ x) F = F 0 σ := by unfold fM_isSet; rw [mIn_f h]; rfl
theorem mLimit_t {σ : Zm} {x : Int} {F : Int → Zm → Zr} (h : 0 ≤ x ∧ x ≤ 1000000) : zbi (fM_isLimit σ x) F = F 1 σ := by unfold fM_isLimit; rw [mIn_t h]; rfl
theorem mLimit_f {σ : Zm} {x : Int} {F : Int → Zm → Zr} (h : ¬ (0 ≤ x ∧ x ≤ 1000000)) : zbi (fM_isLimit σ x) F = F 0 σ := by unfold fM_isLimit; rw [mIn_f h]; rfl
theorem GI_n {w : Wd} (h : GI w) : (1 ≤ wN w 0 ∧ wN w 0 ≤ 12) ∧ (0 ≤ wN w 1 ∧ wN w 1 ≤ 6) ∧ (0 ≤ wN w 2 ∧ wN w 2 ≤ 8) ∧ (0 ≤ wN w 3 ∧ wN w 3 ≤ 10) := ⟨h.1.2.2.1, h.1.2.2.2.1, h.1.2.2.2.2.1, h.1.2.2.2.2.2.1⟩
theorem xText_t {w : Wd} {σ : Zm} {x : Int} {F : Int → Zm → Zr} (g : GI w) (hX : XI w σ) (h : 0 ≤ x ∧ x < wN w 1) : zbi (fX_isText σ x) F = F 1 σ := by
  have := (GI_n g).2.1
  unfold fX_isText
  simp only [zlet]
  rw [hX.1.2.2.2.1, zwj (a := wN w 1 - 1) (by omega) (by omega), pwithin_t (by omega)]
  rfl
theorem xText_f {w : Wd} {σ : Zm} {x : Int} {F : Int → Zm → Zr} (g : GI w) (hX : XI w σ) (h : ¬ (0 ≤ x ∧ x < wN w 1)) : zbi (fX_isText σ x) F = F 0 σ := by
  have := (GI_n g).2.1
  unfold fX_isText
  simp only [zlet]
  rw [hX.1.2.2.2.1, zwj (a := wN w 1 - 1) (by omega) (by omega), pwithin_f (by omega)]
  rfl
theorem mText_t {w : Wd} {σ : Zm} {x : Int} {F : Int → Zm → Zr} (g : GI w) (hM : MI w σ) (h : 0 ≤ x ∧ x < wN w 1) : zbi (fM_isText σ x) F = F 1 σ := by
  have := (GI_n g).2.1
  have e : zrd σ 274 1 = wN w 1 := hM.1.2.2.1 1 (by omega)
  unfold fM_isText
  rw [zck_ok (by decide)]
  simp only [zlet]
  rw [e, zwj (a := wN w 1 - 1) (by omega) (by omega), mIn_t (by omega)]
  rfl
theorem mText_f {w : Wd} {σ : Zm} {x : Int} {F : Int → Zm → Zr} (g : GI w) (hM : MI w σ) (h : ¬ (0 ≤ x ∧ x < wN w 1)) : zbi (fM_isText σ x) F = F 0 σ := by
  have := (GI_n g).2.1
  have e : zrd σ 274 1 = wN w 1 := hM.1.2.2.1 1 (by omega)
  unfold fM_isText
  rw [zck_ok (by decide)]
  simp only [zlet]
  rw [e, zwj (a := wN w 1 - 1) (by omega) (by omega), mIn_f (by omega)]
  rfl
theorem ru_R {i : Nat} (h : i < 6) : ru (225 + 6 * i) ∧ zRF 149 i = 225 + 6 * i := by
  have h2 : ∀ i : Nat, i < 6 → zLN (225 + 6 * i + 1) = 300 ∧ zRF 149 i = 225 + 6 * i := by decide +kernel
  exact ⟨⟨by omega, by omega, (h2 i h).1⟩, (h2 i h).2⟩
theorem nat_of {x : Int} {n : Nat} (h : 0 ≤ x ∧ x < (n : Int)) : ∃ i : Nat, x = (i : Int) ∧ i < n := ⟨x.toNat, by omega, by omega⟩
theorem XI_V {w : Wd} {σ : Zm} (h : XI w σ) : XV 1 σ (wV w) := h.1.1
theorem xSub {w : Wd} {σ : Zm} (g : GI w) (h : XI w σ) {s : Nat} (hs : s < 6) : sok (57 + 3 * s) (wU w s) σ ∧ zRF 3 s = 57 + 3 * s ∧ zli 12 (57 + 3 * s) := by
  obtain ⟨a1, a2⟩ := so_subj (o := 1) (Or.inl rfl) s hs
  have := h.1.2.1 s hs
  rw [show 1 + 56 + 3 * s = 57 + 3 * s by omega] at a1 a2 this
  exact ⟨⟨a2, Or.inl (by omega), this, vok_ss (g.1.2.1 s)⟩, a1, a2⟩
/-- subject s has notes -/
theorem xNotes {w : Wd} {σ : Zm} {x : Int} {F : Int → Zm → Zr} (g : GI w) (h : XI w σ) : zbi (fX_hasNotes σ x) F = if 0 ≤ x ∧ x ≤ 5 ∧ 0 < lbt (wU w x.toNat) then F 1 σ else F 0 σ := by
  unfold fX_hasNotes
  by_cases c : 0 ≤ x ∧ x ≤ 5
  · obtain ⟨s, rfl, hs⟩ := nat_of (x := x) (n := 6) (by omega)
    obtain ⟨b1, b2, b3⟩ := xSub g h hs
    have hl : lbt (wU w s) ≤ 32 := pbt_le _ _
    rw [xSubject_t c, if_neg (by decide), zckj (by omega) (by omega), Int.toNat_natCast, b2, zbi_eq (qL_beats b3 (by omega) σ), b1.2.2.1, zwj (a := (lbt (wU w s) : Int)) (by omega) (by omega)]
    by_cases c2 : 0 < lbt (wU w s)
    · rw [if_neg (by omega), if_pos (by omega)]; rfl
    · rw [if_pos (by omega), if_neg (by omega)]; rfl
  · rw [xSubject_f c, if_pos rfl, if_neg (by omega)]; rfl
theorem mAre {w : Wd} {σ : Zm} {x y : Int} {F : Int → Zm → Zr} (g : GI w) (h : MI w σ) : zbi (fM_areSubjects σ x y) F = if (0 ≤ x ∧ x ≤ 5 ∧ 0 < lbt (wU w x.toNat)) ∧ (0 ≤ y ∧ y ≤ 5 ∧ 0 < lbt (wU w y.toNat)) then F 1 σ else F 0 σ := by
  have hU := g.1.2.1
  have hM : MSu 274 σ (wU w) := h.1.2.1
  unfold fM_areSubjects
  by_cases c : 0 ≤ x ∧ x ≤ 5
  · by_cases d : 0 ≤ y ∧ y ≤ 5
    · obtain ⟨s, rfl, hs⟩ := nat_of (x := x) (n := 6) (by omega)
      obtain ⟨r, rfl, hr⟩ := nat_of (x := y) (n := 6) (by omega)
      have hl : lbt (wU w s) ≤ 32 := pbt_le _ _
      have hl2 : lbt (wU w r) ≤ 32 := pbt_le _ _
      rw [mSubject_t c, if_neg (by decide), mSubject_t d, if_neg (by decide), zbi_eq (qM_beatsOf hU s hs σ hM), zwj (a := (lbt (wU w s) : Int)) (by omega) (by omega), Int.toNat_natCast, Int.toNat_natCast]
      by_cases c2 : 0 < lbt (wU w s)
      · rw [if_neg (by omega), zbi_eq (qM_beatsOf hU r hr σ hM), zwj (a := (lbt (wU w r) : Int)) (by omega) (by omega)]
        by_cases c3 : 0 < lbt (wU w r)
        · rw [if_neg (by omega), if_pos (by omega)]; rfl
        · rw [if_pos (by omega), if_neg (by omega)]; rfl
      · rw [if_pos (by omega), if_neg (by omega)]; rfl
    · rw [mSubject_t c, if_neg (by decide), mSubject_f d, if_pos rfl, if_neg (by omega)]; rfl
  · rw [mSubject_f c, if_pos rfl, if_neg (by omega)]; rfl
/-- the class's judge over a piece -/
theorem xJudge {w : Wd} {σ : Zm} (g : GI w) (h : XI w σ) {x p : Nat} (hx : x < 6) (hxn : (x : Int) < wN w 1) (hp : p < 4) (t : Nat) (ht : t ≤ 32) (i : Int) (hi : zw i = i) {F : Zm → Zr} {P : Int → Zm → Prop} (hF : ∀ σ', zfo (oJ 153) σ σ' → zrd σ' 153 4 = i → jl σ' 153 (abk (wT w x) (fun v => wV w (4 * p + v)) (wN w 0) (32 - t) t) → zwp (F σ') P) : zwp (zbv (fJ_begin σ 153 (zrd σ 1 7) i) fun σ6 => zck (x : Int) 6 <| zbv (fJ_askPiece σ6 153 (zRF 149 (x : Int).toNat) 2 (zw ((p : Int) * 4)) (t : Int)) F) P := by
  obtain ⟨n0, n1, n2, n3⟩ := GI_n g
  obtain ⟨r1, r2⟩ := ru_R hx
  rw [h.1.2.2.1]
  obtain ⟨σ1, e1, f1, b3, b4, b5, b6⟩ := qJ_begin (J := 153) σ (wN w 0) i n0 hi
  rw [zbv_eq e1, zckj (by omega) (by omega), Int.toNat_natCast, r2, show zw ((p : Int) * 4) = ((4 * p : Nat) : Int) by rw [zwj (by omega) (by omega)]; omega, zwp_bv]
  have hXS := h.1
  have hok : pok 153 (225 + 6 * x) (wT w x) (wN w 0) 2 (4 * p) (fun v => wV w (4 * p + v)) σ1 := by
    refine ⟨⟨r1.2.2, ru_J r1 (by omega), TRc_fo f1 (fun j hj => oO_ne (by omega)) (h.2.2 x hx hxn), g.2.2.2 x hx hxn, b3, n0.1, n0.2⟩, by have h16 : zLN 2 = 16 := (by decide +kernel); omega, fun v hv => ?_⟩
    obtain ⟨a1, a2⟩ := so_voice (o := 1) (Or.inl rfl) (4 * p + v) (by omega)
    rw [a1]
    refine ⟨a2, by unfold oJ; omega, by unfold oJ; omega, ?_, vok_sm (g.1.1 _)⟩
    rw [ln_fo f1 (oO_ne (by omega)) (oO_ne (by omega))]
    exact (hXS.1 _ (by omega)).1
  refine zwp_mono (qJ_askPiece hok t ht) (fun r σ2 ⟨g1, g2, g3, g4⟩ => hF σ2 ((f1.mono (fun q z => Or.inl z)).tr g1) ?_ ?_)
  · rw [g2 4 (by decide) (by decide) (by decide) (by decide), b4]
  · have := g4 [] ⟨by rw [b5]; rfl, by rw [b6]; rfl, fun _ k b hk => by simp at hk⟩
    rw [List.nil_append] at this
    exact this
theorem mJok {w : Wd} {σ : Zm} (g : GI w) (h : MI w σ) {x : Nat} (hx : x < 6) (hxn : (x : Int) < wN w 1) {A : Nat → Ln} (hA : MV A σ) (hsm : ∀ v, v < 4 → lsm (A v)) : mok x (wT w x) (wN w 0) A σ := ⟨hx, h.2.2 x hx hxn, g.2.2.2 x hx hxn, h.1.2.2.1 0 (by omega), (GI_n g).1, hA, hsm⟩
theorem abk_len {T : List Cl} (hT : T.length ≤ 10) (A : Nat → Ln) (bar : Int) : ∀ (d t : Nat), (abk T A bar d t).length ≤ 100 * d ∧ 0 ≤ lsum (abk T A bar d t) ∧ lsum (abk T A bar d t) ≤ 99900 * d
  | 0, _ => by simp [abk, lsum]
  | d + 1, t => by
    obtain ⟨h1, h2, h3⟩ := abk_len hT A bar d (t + 1)
    have b := fun a b => pbk_bd hT a b t bar
    have l := fun a => lbk_bd hT a t bar
    have b1 := b (A 0) (A 1)
    have b2 := b (A 0) (A 2)
    have b3 := b (A 0) (A 3)
    have b4 := b (A 1) (A 2)
    have b5 := b (A 1) (A 3)
    have b6 := b (A 2) (A 3)
    have l0 := l (A 0)
    have l1 := l (A 1)
    have l2 := l (A 2)
    have l3 := l (A 3)
    have hlt : ∀ t v w B, (tag t v w B).length = B.length := fun t v w B => by unfold tag; simp
    unfold abk tbk
    simp only [List.length_append, lsum_ap, lsum_tag, hlt]
    omega

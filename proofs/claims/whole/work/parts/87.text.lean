/-! MY OWN: text -/
theorem XG_MI {w : Wd} {x : Nat} {σ σ1 : Zm} (h : MI w σ) (hg : XG x σ σ1) (hx : wN w 1 ≤ (x : Int)) : MI w σ1 := by
  obtain ⟨h1, h2, h3⟩ := h
  exact ⟨MS_fo h1 hg.1 (by unfold mD; omega), MS_fo h2 hg.1 (by unfold mD; omega), fun i hi hn => TRm_cg (fun j a b => hg.2.2 j (by omega)) (h3 i hi hn)⟩
def xD (x q : Nat) : Prop := q = 0 ∨ q = 150 ∨ q = 152 ∨ (225 + 6 * x ≤ q ∧ q ≤ 225 + 6 * x + 5)
theorem XI_xD {w : Wd} {x : Nat} {σ σ1 : Zm} (h : XI w σ) (hf : zfo (xD x) σ σ1) (hx : wN w 1 ≤ (x : Int)) : XI w σ1 := by
  obtain ⟨h1, h2, h3⟩ := h
  exact ⟨XS_fo h1 hf (fun q a b => by unfold xD; omega), XS_fo h2 hf (fun q a b => by unfold xD; omega), fun i hi hn => TRc_fo hf (fun j hj => by unfold xD; omega) (h3 i hi hn)⟩
theorem st_text : St (fun σ => fX_text σ) (fun σ => fM_text σ) := by
  intro σ h
  have hI := h
  obtain ⟨w, p, g, gp, hX, hM, hXT, hMP⟩ := h
  obtain ⟨n0, n1, n2, n3⟩ := GI_n g
  have e8 : zrd σ 1 8 = wN w 1 := hX.1.2.2.2.1
  have e274 : zrd σ 274 1 = wN w 1 := hM.1.2.2.1 1 (by omega)
  show zwp (fX_text σ) (fun r1 σ1 => zwp (fM_text σ1) (fun r2 σ2 => r1 = r2 ∧ Inv σ2))
  by_cases c6 : wN w 1 < 6
  · obtain ⟨x, hxe, hx⟩ := nat_of (x := wN w 1) (n := 6) (by omega)
    obtain ⟨r1, r2⟩ := ru_R hx
    have hR := r1
    have ht : tape p.2.1 p.1 σ := ⟨hXT.1, gp.1, fun j hj => ⟨hXT.2.1 j hj, gp.2.1 j hj⟩⟩
    have hL := gp.1
    unfold fX_text
    rw [zwp_let, e8, if_pos c6, zwp_let, hxe, zckj (by omega) (by omega), Int.toNat_natCast, r2, zwp_bv]
    refine zwp_mono (qR_read σ hR ht) (fun _ σ1 ⟨S1, hRc1, hfin1, hPI1, hCR1⟩ => ?_)
    have hTI1 := (Rc_inv hRc1 PI_0 TI_0).2
    obtain ⟨pp, ⟨du, so, pr, cm⟩, W, c1, c, T, fa, pl⟩ := S1
    -- what both cases of the relation give
    have hc1 : zfo (cD (225 + 6 * x)) σ σ1 ∧ zrd σ1 150 3 = fa ∧ zrd σ1 150 4 = pl := by
      have := hCR1.2
      by_cases cd : 1 ≤ du ∧ du ≤ 3
      · rw [if_pos cd] at this; exact ⟨this.1.2.1, this.1.2.2.2.1, this.1.2.2.2.2⟩
      · rw [if_neg cd] at this; exact ⟨this.1.2.1, this.1.2.2.2.1, this.1.2.2.2.2⟩
    refine RS_st (S := fun k => k = 2) rfl (fun σ2 rs2 e2 => ?_)
    refine zwp_st (fun σ3 f3 e3 => ?_)
    have g3 : zrd σ3 150 3 = fa := by rw [f3.rd (oO_ne (by omega)), e2, if_neg (by decide)]; exact hc1.2.1
    have g4 : zrd σ3 150 4 = pl := by rw [f3.rd (oO_ne (by omega)), e2, if_neg (by decide)]; exact hc1.2.2
    have g2 : zrd σ3 150 2 = 0 := by rw [f3.rd (oO_ne (by omega)), e2, if_pos rfl]; rfl
    have g11 : zrd σ3 0 11 = 1 := by rw [e3, if_pos rfl]; rfl
    have hf3 : zfo (xD x) σ σ3 := ((hc1.1.mono (D' := xD x) (fun q z => by unfold cD at z; unfold xD; omega)).tr (rs2.1.mono (fun q z => Or.inr (Or.inl z)))).tr (f3.mono (fun q z => Or.inl z))
    have hX3 := XI_xD hX hf3 (by omega)
    -- the reference, from any memory that keeps its own
    have model : ∀ τ : Zm, zfo (fun q => q ≤ 260) σ τ → zwp (fM_readText τ) (fun r τ1 => XG x τ τ1 ∧ r = fa ∧ (fa = 0 → du = 4 ∧ pl = -1 ∧ TRm τ1 x T) ∧ (fa ≠ 0 → 1 ≤ fa ∧ fa ≤ 5 ∧ zrd τ1 273 8 = pl)) := by
      intro τ hτ
      have mt : mtape p.2.1 p.1 τ := ⟨by rw [hτ.rd (by omega)]; exact hMP.1, gp.1, fun j hj => ⟨by rw [hτ.rd (by omega)]; exact hMP.2.1 j hj, gp.2.1 j hj⟩⟩
      refine zwp_mono (qM_readText hx τ mt (by rw [hτ.rd (by omega), e274, hxe])) (fun r τ1 ⟨xg, q⟩ => ?_)
      rcases q with ⟨q0, p', so', pr', cm', W', T', hRc', hPI', m1, hS1⟩ | ⟨hr, S', hRc', he⟩
      · have heq := Rc_one hRc1 hRc' hfin1 (Or.inr rfl)
        simp only [Prod.mk.injEq] at heq
        obtain ⟨_, ⟨hdu, _⟩, _, _, _, hT, hfa, hpl⟩ := heq
        subst hT hfa hpl
        refine ⟨xg, q0, fun _ => ⟨hdu, rfl, hS1.2, hPI'.2.2.2.2.1, ?_⟩, fun z => absurd rfl z⟩
        have hsum := hPI'.2.2.1
        have hpL := hPI'.1
        exact TMl_of T 0 0 hS1.1 (by omega) m1.2.2.2.2.1
      · have hfin' : fin S' := by
          obtain ⟨q1, ⟨q2, q3, q4, q5⟩, q6, q7, q8, q9, q10, q11⟩ := S'
          have : q10 = r := congrArg Prod.fst he
          exact Or.inl (by rw [this]; omega)
        have heq := Rc_one hRc1 hRc' hfin1 hfin'
        rw [← heq] at he
        have h1 : fa = r := congrArg Prod.fst he
        have h2 : pl = zrd τ1 273 8 := congrArg Prod.snd he
        subst h1
        exact ⟨xg, rfl, fun z => by omega, fun _ => ⟨hr.1, hr.2, h2.symm⟩⟩
    rw [zwp_let, g3]
    by_cases cfa : fa = 0
    · have hfb : du = 4 := by
        rcases hfin1 with z | z
        · exact absurd cfa z
        · exact z
      have hCZ : CZ p.2.1 p.1 (225 + 6 * x) σ pp T fa pl σ1 := by
        have := hCR1.2
        rw [if_neg (by omega)] at this
        exact this
      have hsum := hPI1.2.2.1
      have hpL := hPI1.1
      have hT1 : TRc σ1 (225 + 6 * x) T := ⟨hCZ.2.1.2, hPI1.2.2.2.2.1, TRl_of T 0 0 hCZ.2.1.1 (by omega) hCZ.2.2.2⟩
      have hT3 : TRc σ3 (225 + 6 * x) T := TRc_fo f3 (fun j hj => oO_ne (by omega)) (TRc_fo rs2.1 (fun j hj => oO_ne (by omega)) hT1)
      have e83 : zrd σ3 1 8 = (x : Int) := by rw [hf3.rd (by unfold xD; omega), e8, hxe]
      rw [if_pos cfa, zwp_let, e83, zckj (by omega) (by omega), Int.toNat_natCast]
      refine zwp_st (fun σ4 f4 e4 => ?_)
      rw [zwp_let, f4.rd (oO_ne (by omega)), e83]
      refine zwp_st (fun σ5 f5 e5 => ?_)
      have hz1 : zw ((x : Int) + 1) = (x : Int) + 1 := zwj (by omega) (by omega)
      rw [zwp_let, e5, if_pos rfl, hz1, zwp_some]
      have hx4 := XN_st hX3.1.2.2 (q := 5) (k := x) (n := 80 + x) (v := 1) (by omega) f4 e4 rfl
      have hx5 := XN_st hx4 (q := 1) (k := 8) (n := 1) (v := (x : Int) + 1) (by omega) f5 e5 hz1
      have f45 : zfo (fun q => q = 5 ∨ q = 1) σ3 σ5 := (f4.mono (D' := fun q => q = 5 ∨ q = 1) (fun q z => Or.inl z)).tr (f5.mono (fun q z => Or.inr z))
      have hτ5 : zfo (fun q => q ≤ 260) σ σ5 := (hf3.mono (D' := fun q => q ≤ 260) (fun q z => by unfold xD at z; omega)).tr (f45.mono (fun q z => by omega))
      unfold fM_text
      rw [zck_ok (by decide), zwp_let, hτ5.rd (by omega), e274, if_pos (by omega), zwp_bi]
      refine zwp_mono (model σ5 hτ5) (fun r τ1 ⟨xg, q0, q1, _⟩ => ?_)
      obtain ⟨_, hpl, hTm⟩ := q1 cfa
      rw [q0, cfa, show zw 0 = 0 from rfl]
      refine zwp_st (fun τ2 f2 v2 => ?_)
      rw [zwp_let, v2, if_pos rfl, show zw 0 = 0 from rfl, if_neg (by decide)]
      refine zwp_st (fun τ3 ff3 v3 => ?_)
      unfold fM_text_40
      refine zwp_st (fun τ4 ff4 v4 => ?_)
      have f24 : zfo (oO 273) τ1 τ4 := (f2.tr ff3).tr ff4
      have e1 : zrd τ4 274 1 = (x : Int) := by rw [f24.rd (oO_ne (by omega)), xg.1.rd (by unfold mD; omega), hτ5.rd (by omega), e274, hxe]
      have k5 : zrd τ4 273 5 = 0 := by rw [v4, if_neg (by decide), v3, if_neg (by decide), v2, if_pos rfl]; rfl
      rw [zwp_let, k5, if_pos rfl, zck_ok (by decide), zwp_let, e1, show zw (690 + (x : Int)) = ((690 + x : Nat) : Int) by rw [zwj (by omega) (by omega)]; omega, zckj (by omega) (by omega), Int.toNat_natCast]
      refine zwp_st (fun τ5 ff5 v5 => ?_)
      have e15 : zrd τ5 274 1 = (x : Int) := by rw [v5, if_neg (by omega), e1]
      rw [zck_ok (by decide), zwp_let, e15, zck_ok (by decide)]
      refine zwp_st (fun τ6 ff6 v6 => ?_)
      rw [zck_ok (by decide), zwp_let, v6, if_pos rfl, hz1, zwp_some]
      refine ⟨rfl, ?_⟩
      -- the memory
      have fall : zfo (fun q => q = 273 ∨ q = 274 ∨ q = 276 ∨ q = 278) σ5 τ6 := ((xg.1.mono (D' := fun q => q = 273 ∨ q = 274 ∨ q = 276 ∨ q = 278) (fun q z => by unfold mD at z; omega)).tr (f24.mono (fun q z => Or.inl z))).tr ((ff5.tr ff6).mono (fun q z => Or.inr (Or.inl z)))
      have f56 : zfo (oO 274) τ4 τ6 := ff5.tr ff6
      have hM5 : MI w σ5 := MI_fo hM hτ5 (by omega) (by omega) (by omega)
      have hMt : MI w τ1 := XG_MI hM5 xg (by omega)
      have hM4 : MS 274 τ4 (wV w) (wU w) (wN w) := MS_fo hMt.1 f24 (oO_ne (by omega))
      have m5 := MS_st hM4 (k := 690 + x) (n := 80 + x) (v := 1) (Or.inr (Or.inr (Or.inr (Or.inr (Or.inr ⟨x, hx, rfl, rfl⟩))))) v5 rfl
      have m6 := MS_st m5 (k := 1) (n := 1) (v := (x : Int) + 1) (Or.inl ⟨rfl, by omega⟩) v6 hz1
      have hWS := WS_upd (WS_upd g.1 (n := 80 + x) (v := 1) (by omega)) (n := 1) (v := (x : Int) + 1) (by omega)
      have hN1 : updN (updN (wN w) (80 + x) 1) 1 ((x : Int) + 1) 1 = (x : Int) + 1 := updN_eq
      refine ⟨((wV w, wU w, updN (updN (wN w) (80 + x) 1) 1 ((x : Int) + 1)), w.2.1, fun i => if i = x then T else wT w i), (0, p.2.1, (1, fa, pl)), ⟨hWS, g.2.1, ?_, fun i hi hn => ?_⟩, ⟨by omega, fun j hj => by omega, Or.inr rfl⟩, ⟨⟨?_, ?_, ?_⟩, ?_, fun i hi hn => ?_⟩, ⟨m6, ?_, fun i hi hn => ?_⟩, ⟨?_, fun j hj => by omega, ?_, fun _ => ⟨?_, ?_⟩⟩, ⟨?_, fun j hj => by omega, ?_, ?_⟩⟩
      · show w.2.1.2.2 1 ≤ updN (updN (wN w) (80 + x) 1) 1 ((x : Int) + 1) 1
        rw [hN1]
        have := g.2.2.1
        omega
      · have hn' : (i : Int) < updN (updN (wN w) (80 + x) 1) 1 ((x : Int) + 1) 1 := hn
        rw [hN1] at hn'
        show WF (if i = x then T else wT w i)
        by_cases ci : i = x
        · rw [if_pos ci]; exact hTI1.1
        · rw [if_neg ci]; exact g.2.2.2 i hi (by omega)
      · exact XV_fo (XV_fo2 hX3.1.1 (f45.mono (D' := dX) (fun q z => by unfold dX; omega))) fall (fun q a b => by omega)
      · exact XU_fo (XU_fo2 hX3.1.2.1 (f45.mono (D' := dX) (fun q z => by unfold dX; omega))) fall (fun q a b => by omega)
      · exact XN_fo hx5 fall (fun q a b => by omega)
      · exact XS_fo (XS_fo hX3.2.1 f45 (fun q a b => by omega)) fall (fun q a b => by omega)
      · have hn' : (i : Int) < updN (updN (wN w) (80 + x) 1) 1 ((x : Int) + 1) 1 := hn
        rw [hN1] at hn'
        show TRc τ6 (225 + 6 * i) (if i = x then T else wT w i)
        refine TRc_fo fall (fun j hj => by omega) (TRc_fo f45 (fun j hj => by omega) ?_)
        by_cases ci : i = x
        · rw [if_pos ci, ci]; exact hT3
        · rw [if_neg ci]; exact hX3.2.2 i hi (by omega)
      · exact MS_fo (MS_fo hMt.2.1 f24 (oO_ne (by omega))) f56 (oO_ne (by omega))
      · have hn' : (i : Int) < updN (updN (wN w) (80 + x) 1) 1 ((x : Int) + 1) 1 := hn
        rw [hN1] at hn'
        show TRm τ6 i (if i = x then T else wT w i)
        refine TRm_fo f56 (oO_ne (by omega)) (TRm_fo f24 (oO_ne (by omega)) ?_)
        by_cases ci : i = x
        · rw [if_pos ci, ci]; exact hTm
        · rw [if_neg ci]; exact hMt.2.2 i hi (by omega)
      · rw [fall.rd (by omega), f45.rd (by omega)]; exact g2
      · rw [fall.rd (by omega), f45.rd (by omega)]; exact g11
      · rw [fall.rd (by omega), f45.rd (by omega)]; exact g3
      · rw [fall.rd (by omega), f45.rd (by omega)]; exact g4
      · rw [f56.rd (oO_ne (by omega)), v4, if_pos rfl]; rfl
      · rw [f56.rd (oO_ne (by omega)), v4, if_neg (by decide), v3, if_neg (by decide), v2, if_pos rfl, if_neg (show ¬ (1 : Int) = 0 by decide)]
        exact cfa.symm
      · rw [f56.rd (oO_ne (by omega)), v4, if_neg (by decide), v3, if_pos rfl, if_neg (show ¬ (1 : Int) = 0 by decide)]
        exact hpl.symm
    · rw [if_neg cfa, zwp_some]
      have hτ3 : zfo (fun q => q ≤ 260) σ σ3 := hf3.mono (fun q z => by unfold xD at z; omega)
      unfold fM_text
      rw [zck_ok (by decide), zwp_let, hτ3.rd (by omega), e274, if_pos (by omega), zwp_bi]
      refine zwp_mono (model σ3 hτ3) (fun r τ1 ⟨xg, q0, _, q2⟩ => ?_)
      obtain ⟨h1, h5, h8⟩ := q2 cfa
      have hzf : zw fa = fa := zwj (by omega) (by omega)
      rw [q0, hzf]
      refine zwp_st (fun τ2 f2 v2 => ?_)
      rw [zwp_let, v2 5, if_pos rfl, hzf, if_pos cfa, zwp_let, v2 8, if_neg (by decide), h8]
      refine zwp_st (fun τ3 ff3 v3 => ?_)
      unfold fM_text_40
      refine zwp_st (fun τ4 ff4 v4 => ?_)
      have f24 : zfo (oO 273) τ1 τ4 := (f2.tr ff3).tr ff4
      have k5 : zrd τ4 273 5 = fa := by rw [v4, if_neg (by decide), v3, if_neg (by decide), v2, if_pos rfl, hzf]
      rw [zwp_let, k5, if_neg cfa, zwp_some]
      refine ⟨rfl, w, (0, p.2.1, (1, fa, pl)), g, ⟨by omega, fun j hj => by omega, Or.inr rfl⟩, ?_, ?_, ⟨?_, fun j hj => by omega, ?_, fun _ => ⟨?_, ?_⟩⟩, ⟨?_, fun j hj => by omega, ?_, ?_⟩⟩
      · exact XI_fo (XI_fo hX3 xg.1 (fun q a => by unfold mD; omega) (fun q a b => by unfold mD; omega)) f24 (fun q a => oO_ne (by omega)) (fun q a b => oO_ne (by omega))
      · exact MI_fo (XG_MI (MI_fo hM hτ3 (by omega) (by omega) (by omega)) xg (by omega)) f24 (oO_ne (by omega)) (oO_ne (by omega)) (oO_ne (by omega))
      · rw [f24.rd (oO_ne (by omega)), xg.1.rd (by unfold mD; omega)]; exact g2
      · rw [f24.rd (oO_ne (by omega)), xg.1.rd (by unfold mD; omega)]; exact g11
      · rw [f24.rd (oO_ne (by omega)), xg.1.rd (by unfold mD; omega)]; exact g3
      · rw [f24.rd (oO_ne (by omega)), xg.1.rd (by unfold mD; omega)]; exact g4
      · rw [v4, if_pos rfl]; rfl
      · rw [v4, if_neg (by decide), v3, if_neg (by decide), v2, if_pos rfl, hzf, if_neg (show ¬ (1 : Int) = 0 by decide)]
      · rw [v4, if_neg (by decide), v3, if_pos rfl, if_neg (show ¬ (1 : Int) = 0 by decide), ← g4, zw_rd]
  · have e1 : fX_text σ = some (-1, σ) := by
      unfold fX_text
      dsimp only [zlet]
      rw [e8, if_neg c6]
    have e2 : fM_text σ = some (-1, σ) := by
      unfold fM_text
      rw [zck_ok (by decide)]
      dsimp only [zlet]
      rw [e274, ifnn (by omega)]
    exact St_neg (G := fun σ => fM_text σ) hI e1 e2

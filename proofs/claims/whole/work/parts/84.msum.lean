/-! MY OWN: sums, as the reference reads them -/
theorem KSg_x {k X : Int} (h : KSg k X) : (X = 40 ↔ k = 0) ∧ (X = 60 ↔ k = 4) ∧ (X = 4 ↔ k = 5) ∧ (X = 62 ↔ k = 6) ∧ (X = 5 ↔ k = 7) ∧ (X = 61 ↔ k = 8) ∧ (X = 35 ↔ k = 9) ∧ (X = 43 ↔ k = 10) ∧ (X = 45 ↔ k = 11) ∧ (X = 42 ↔ k = 12) ∧ (X = 47 ↔ k = 13) ∧ (X = 41 ↔ k = 15) ∧ (X = 59 ↔ k = 16) ∧ (X = 0 ↔ k = 21) := by
  unfold KSg at h
  rcases h with ⟨z, y⟩ | ⟨z, y⟩ | ⟨z, y⟩ | ⟨z, y⟩ | ⟨z, y⟩ | ⟨z, y⟩ | ⟨z, y⟩ | ⟨z, y⟩ | ⟨z, y⟩ | ⟨z, y⟩ | ⟨z, y⟩ | ⟨z, y⟩ | ⟨z, y⟩ | ⟨z, y⟩ | ⟨z, y⟩ <;> (subst z y; decide)
theorem KK_x {k v : Int} {σ : Zm} (h : KK k v σ) : ((zrd σ 273 9 = 40 ↔ k = 0) ∧ (zrd σ 273 9 = 60 ↔ k = 4) ∧ (zrd σ 273 9 = 4 ↔ k = 5) ∧ (zrd σ 273 9 = 62 ↔ k = 6) ∧ (zrd σ 273 9 = 5 ↔ k = 7) ∧ (zrd σ 273 9 = 61 ↔ k = 8) ∧ (zrd σ 273 9 = 35 ↔ k = 9) ∧ (zrd σ 273 9 = 43 ↔ k = 10) ∧ (zrd σ 273 9 = 45 ↔ k = 11) ∧ (zrd σ 273 9 = 42 ↔ k = 12) ∧ (zrd σ 273 9 = 47 ↔ k = 13) ∧ (zrd σ 273 9 = 41 ↔ k = 15) ∧ (zrd σ 273 9 = 59 ↔ k = 16) ∧ (zrd σ 273 9 = 0 ↔ k = 21)) ∧ (zrd σ 273 9 = 1 ↔ k = 20) := by
  rcases h with ⟨u, h1, h2, h3, h4, h5⟩ | ⟨h1, h2, h3, h4⟩ | ⟨h1, h2, h3⟩
  · have hc := wkd_c _ (wnm_bd u)
    have hk : k = 22 ∨ k = 18 ∨ k = 17 ∨ k = 1 ∨ k = 2 ∨ k = 3 ∨ k = 19 := by omega
    rw [h2]
    clear hc h4 h5 h3
    rcases hk with z | z | z | z | z | z | z <;> (subst z; decide)
  · rw [h2, h1]; decide
  · exact ⟨KSg_x h3, ⟨fun z => absurd z h1, fun z => absurd z (KSg_no h3).2.2.2.2.2.2⟩⟩
theorem KK_lp {k v : Int} {σ : Zm} (h : KK k v σ) : zrd σ 273 9 = 40 ↔ k = 0 := (KK_x h).1.1
theorem KK_lt {k v : Int} {σ : Zm} (h : KK k v σ) : zrd σ 273 9 = 60 ↔ k = 4 := (KK_x h).1.2.1
theorem KK_le {k v : Int} {σ : Zm} (h : KK k v σ) : zrd σ 273 9 = 4 ↔ k = 5 := (KK_x h).1.2.2.1
theorem KK_gt {k v : Int} {σ : Zm} (h : KK k v σ) : zrd σ 273 9 = 62 ↔ k = 6 := (KK_x h).1.2.2.2.1
theorem KK_ge {k v : Int} {σ : Zm} (h : KK k v σ) : zrd σ 273 9 = 5 ↔ k = 7 := (KK_x h).1.2.2.2.2.1
theorem KK_eq {k v : Int} {σ : Zm} (h : KK k v σ) : zrd σ 273 9 = 61 ↔ k = 8 := (KK_x h).1.2.2.2.2.2.1
theorem KK_ne {k v : Int} {σ : Zm} (h : KK k v σ) : zrd σ 273 9 = 35 ↔ k = 9 := (KK_x h).1.2.2.2.2.2.2.1
theorem KK_pl {k v : Int} {σ : Zm} (h : KK k v σ) : zrd σ 273 9 = 43 ↔ k = 10 := (KK_x h).1.2.2.2.2.2.2.2.1
theorem KK_mi {k v : Int} {σ : Zm} (h : KK k v σ) : zrd σ 273 9 = 45 ↔ k = 11 := (KK_x h).1.2.2.2.2.2.2.2.2.1
theorem KK_ti {k v : Int} {σ : Zm} (h : KK k v σ) : zrd σ 273 9 = 42 ↔ k = 12 := (KK_x h).1.2.2.2.2.2.2.2.2.2.1
theorem KK_di {k v : Int} {σ : Zm} (h : KK k v σ) : zrd σ 273 9 = 47 ↔ k = 13 := (KK_x h).1.2.2.2.2.2.2.2.2.2.2.1
theorem KK_rp {k v : Int} {σ : Zm} (h : KK k v σ) : zrd σ 273 9 = 41 ↔ k = 15 := (KK_x h).1.2.2.2.2.2.2.2.2.2.2.2.1
theorem KK_se {k v : Int} {σ : Zm} (h : KK k v σ) : zrd σ 273 9 = 59 ↔ k = 16 := (KK_x h).1.2.2.2.2.2.2.2.2.2.2.2.2.1
theorem KK_en {k v : Int} {σ : Zm} (h : KK k v σ) : zrd σ 273 9 = 0 ↔ k = 21 := (KK_x h).1.2.2.2.2.2.2.2.2.2.2.2.2.2
theorem KK_nu {k v : Int} {σ : Zm} (h : KK k v σ) : zrd σ 273 9 = 1 ↔ k = 20 := (KK_x h).2
theorem KK_n2 {k v : Int} {σ : Zm} (h : KK k v σ) (hk : k = 20) : 0 ≤ zrd σ 273 10 ∧ min 1000 (zrd σ 273 10) = v := by
  rcases h with ⟨u, h1, h2, h3, h4, h5⟩ | ⟨h1, h2, h3, h4⟩ | ⟨h1, h2, h3⟩
  · have hc := wkd_c _ (wnm_bd u)
    omega
  · exact ⟨h3, h4⟩
  · exact absurd hk (KSg_no h3).2.2.2.2.2.2
/-- a fault, where the reference finds it -/
def FTx (f : Nat → Int) (L : Nat) (S : PS) (r : Int) (σ' : Zm) : Prop := (1 ≤ r ∧ r ≤ 5) ∧ ∃ S' : PS, Rc f L S S' ∧ S'.2.2.2.2.2.2 = (r, zrd σ' 273 8)
theorem FTx.st {f : Nat → Int} {L : Nat} {S S' : PS} {r : Int} {σ' : Zm} (h : FTx f L S' r σ') (hr : Rc f L S S') : FTx f L S r σ' := by
  obtain ⟨h1, S1, h2, h3⟩ := h
  exact ⟨h1, S1, hr.tr h2, h3⟩
/-- a fault by the next token -/
theorem FT_now {f : Nat → Int} {L p : Nat} {du so pr cm pl r : Int} {W c1 c : List Int} {T : List Cl} {σ : Zm} (hd : du ≠ 4) (hr : 1 ≤ r ∧ r ≤ 5) (h : ptk (tk f L (ts f L p)) (tvl f L (ts f L p)) (ts f L p : Int) (tnx f L (ts f L p)) du so pr cm W c1 c T pl = (tnx f L (ts f L p), (du, so, pr, cm), W, c1, c, T, (r, (ts f L p : Int)))) (h8 : zrd σ 273 8 = (ts f L p : Int)) : FTx f L (p, (du, so, pr, cm), W, c1, c, T, (0, pl)) r σ := by
  refine ⟨hr, pstep f L (p, (du, so, pr, cm), W, c1, c, T, (0, pl)), Rc.st Rc.rf, ?_⟩
  rw [pstep_go hd, h, h8]
def SM (f : Nat → Int) (L x : Nat) (B X : List Int) (p : Nat) (du : Int) (W c : List Int) (σ : Zm) : Prop := ∃ P c', pw P ∧ aro (P ++ B) ≤ 8 ∧ MX0 f L x p (X ++ c') (aro (P ++ B)) σ ∧ PL P σ ∧ ((zrd σ 273 19 = 0 ∧ (du = 2 ∨ (du = 1 ∧ tk f L (ts f L p) ≠ 3)) ∧ W = P ++ B ∧ c' = c) ∨ (zrd σ 273 19 = 1 ∧ du = 3 ∧ rel 7 W c = (P ++ B, c') ∧ nng P))
theorem qM_107 {f : Nat → Int} {L x p d : Nat} {C P : List Int} {σ : Zm} {a t : Int} (h : MX0 f L x p C d σ) (hd : d < 8) (hP : PL P σ) (hl : P.length < 160) (ht : t = trc a) (ha : a = 0 ∨ a = 14) (hk : tk f L (ts f L p) ≠ 21) : zwp (fM_beginOne_107 t σ) (fun r σ' => r = 0 ∧ XF x σ σ' ∧ MX0 f L x (tnx f L (ts f L p)) C (d + 1) σ' ∧ PL (a :: P) σ' ∧ zrd σ' 273 19 = zrd σ 273 19) := by
  have hc := trc_c (a := a) (by omega)
  unfold fM_beginOne_107
  rw [if_pos (by omega), zwp_let, h.2.2.2.2.2, if_pos (by omega), zwp_let]
  refine MX0_18 (d' := d + 1) h (by rw [zwj (by omega) (by omega)]; omega) (fun σ1 x1 m1 k1 q1 => ?_)
  obtain ⟨σ2, g1, g2, g3, g4, g5⟩ := M_push (a := a) (t := t) m1 (PL_cg hP (k1 17 (by omega)) q1) hl ht (by omega)
  rw [zbv_eq g1, zwp_bv]
  refine zwp_mono (M_next g3 hk) (fun _ σ3 ⟨y1, y2, y3⟩ => ?_)
  rw [zwp_some]
  refine ⟨rfl, (x1.tr g2).tr y1, y2, PL_TR g4 y3, ?_⟩
  rw [y3.2 19 (by omega), g5 19 (by omega), k1 19 (by omega)]
theorem qM_107_3 {t : Int} {σ : Zm} (ht : t ≠ 0) (h : zrd σ 273 18 = 8) : fM_beginOne_107 t σ = some (3, σ) := by
  unfold fM_beginOne_107
  simp only [zlet]
  rw [if_pos ht, h, ifnn rfl]
theorem qM_107_1 {σ : Zm} : fM_beginOne_107 0 σ = some (1, σ) := by
  unfold fM_beginOne_107
  rw [ifnn rfl]
theorem qM_beginOne {f : Nat → Int} {L x p : Nat} (hx : x < 6) {B : List Int} (hB : bB B) {du so pr cm pl : Int} {c1 c P : List Int} {T : List Cl} {σ : Zm} (hPI : PI L (p, (du, so, pr, cm), P ++ B, c1, c, T, (0, pl))) (hso : 0 ≤ so ∧ so ≤ 3) (h20 : zrd σ 273 20 = so + 1) (hdu : du = 2 ∨ (du = 1 ∧ tk f L (ts f L p) ≠ 3)) (hw : pw P) (har : aro (P ++ B) ≤ 8) (h : MX0 f L x p ((flat T ++ c1) ++ c) (aro (P ++ B)) σ) (hp : PL P σ) (h19 : zrd σ 273 19 = 0) : zwp (fM_beginOne σ) (fun r σ' => XF x σ σ' ∧ ((r = 0 ∧ ∃ p' du' W' c', pstep f L (p, (du, so, pr, cm), P ++ B, c1, c, T, (0, pl)) = (p', (du', so, pr, cm), W', c1, c', T, (0, pl)) ∧ p < p' ∧ SM f L x B (flat T ++ c1) p' du' W' c' σ') ∨ FTx f L (p, (du, so, pr, cm), P ++ B, c1, c, T, (0, pl)) r σ')) := by
  have hL := h.1.2.1
  have hp1 := hPI.1
  have hsum := hPI.2.2.1
  have hts := ts_bd (f := f) hp1
  have hKK := MX_KK h
  have h8 : zrd σ 273 8 = (ts f L p : Int) := h.2.1.1
  have haP : aro P ≤ 8 := by rw [aro_ap] at har; omega
  have hlen := (pw_len hw).1
  have hok := pw_ok hw
  rw [List.length_append] at hsum
  have ept : ptk (tk f L (ts f L p)) (tvl f L (ts f L p)) (ts f L p : Int) (tnx f L (ts f L p)) du so pr cm (P ++ B) c1 c T pl = tOne (tk f L (ts f L p)) (tvl f L (ts f L p)) (ts f L p : Int) (tnx f L (ts f L p)) du so pr cm (P ++ B) c1 c T pl := by
    unfold ptk
    rw [if_neg (by omega), if_neg (by omega)]
  have adv : tk f L (ts f L p) ≠ 21 → p < tnx f L (ts f L p) ∧ tnx f L (ts f L p) ≤ L := fun q => by
    have := tnx_s (f := f) (tk_lt q)
    omega
  have hts2 := fun (q : tk f L (ts f L p) ≠ 21) => tk_s (f := f) (L := L) (s := ts f L p) (tk_lt q)
  have hft : ∀ r, 1 ≤ r ∧ r ≤ 5 → tOne (tk f L (ts f L p)) (tvl f L (ts f L p)) (ts f L p : Int) (tnx f L (ts f L p)) du so pr cm (P ++ B) c1 c T pl = (tnx f L (ts f L p), (du, so, pr, cm), P ++ B, c1, c, T, (r, (ts f L p : Int))) → zwp (some (r, σ) : Zr) (fun r σ' => XF x σ σ' ∧ ((r = 0 ∧ ∃ p' du' W' c', pstep f L (p, (du, so, pr, cm), P ++ B, c1, c, T, (0, pl)) = (p', (du', so, pr, cm), W', c1, c', T, (0, pl)) ∧ p < p' ∧ SM f L x B (flat T ++ c1) p' du' W' c' σ') ∨ FTx f L (p, (du, so, pr, cm), P ++ B, c1, c, T, (0, pl)) r σ')) := by
    intro r hr he
    rw [zwp_some]
    exact ⟨XF.rf, Or.inr (FT_now (by omega) hr (by rw [ept]; exact he) h8)⟩
  have epg : pstep f L (p, (du, so, pr, cm), P ++ B, c1, c, T, (0, pl)) = tOne (tk f L (ts f L p)) (tvl f L (ts f L p)) (ts f L p : Int) (tnx f L (ts f L p)) du so pr cm (P ++ B) c1 c T pl := by rw [pstep_go (by omega), ept]
  generalize hk : tk f L (ts f L p) = k at *
  generalize hv : tvl f L (ts f L p) = v at *
  generalize hn : tnx f L (ts f L p) = n at *
  -- a value
  have val : ∀ (a b y : Int), k ≠ 21 → a = eno y → b = eno2 y → zw a = a → zw b = b → tOne k v (ts f L p : Int) n du so pr cm (P ++ B) c1 c T pl = (n, (3, so, pr, cm), P ++ B, c1, c ++ [y], T, (0, pl)) → zwp (zbv (fM_emit σ a b) fun σ17 => zbv (fM_nextToken σ17) fun σ18 => zbv (fM_whole σ18) fun σ19 => some (0, σ19)) (fun r σ' => XF x σ σ' ∧ ((r = 0 ∧ ∃ p' du' W' c', pstep f L (p, (du, so, pr, cm), P ++ B, c1, c, T, (0, pl)) = (p', (du', so, pr, cm), W', c1, c', T, (0, pl)) ∧ p < p' ∧ SM f L x B (flat T ++ c1) p' du' W' c' σ') ∨ FTx f L (p, (du, so, pr, cm), P ++ B, c1, c, T, (0, pl)) r σ')) := by
    intro a b y hk21 ha hb za zb' he
    have ha' := adv hk21
    obtain ⟨σ1, g1, g2, g3, g4, g5⟩ := M_emit (c := y) (a := a) (b := b) hx h (by simp only [List.length_append]; omega) ha (fun _ => hb) za zb'
    rw [zbv_eq g1, zwp_bv]
    rw [List.append_assoc] at g3
    refine zwp_mono (M_next g3 (by rw [hk]; exact hk21)) (fun _ σ2 ⟨y1, y2, y3⟩ => ?_)
    rw [zwp_bv]
    rw [hn] at y2
    refine zwp_mono (M_whole hx hB σ2 hok (by omega) (by simp only [List.length_append, List.length_cons, List.length_nil]; omega) y2 (by omega) (PL_TR (PL_cg hp (g4 17 (by omega)) g5) y3)) (fun _ σ3 ⟨P', c', q1, q2, q3, q4, q5, q, q6, q7⟩ => ?_)
    rw [zwp_some]
    rw [q6] at hw
    have har' : aro (P' ++ B) ≤ 8 := by
      rw [q6, List.append_assoc, aro_ap] at har
      omega
    refine ⟨(g2.tr y1).tr q4, Or.inl ⟨rfl, n, 3, P ++ B, c ++ [y], by rw [epg, he], ha'.1, P', c', pw_drop hw, har', q2, q3, Or.inr ⟨q5, rfl, q1, ?_⟩⟩⟩
    rcases q7 with z | ⟨b2, P2, z, z2⟩
    · rw [z]; trivial
    · rw [z]; exact z2
  have nest' : ∀ (a t : Int), k ≠ 21 → (a = 0 ∨ a = 14) → t = trc a → tOne k v (ts f L p : Int) n du so pr cm (P ++ B) c1 c T pl = nest (ts f L p : Int) n a 2 du so pr cm (P ++ B) c1 c T pl → zwp (fM_beginOne_107 t σ) (fun r σ' => XF x σ σ' ∧ ((r = 0 ∧ ∃ p' du' W' c', pstep f L (p, (du, so, pr, cm), P ++ B, c1, c, T, (0, pl)) = (p', (du', so, pr, cm), W', c1, c', T, (0, pl)) ∧ p < p' ∧ SM f L x B (flat T ++ c1) p' du' W' c' σ') ∨ FTx f L (p, (du, so, pr, cm), P ++ B, c1, c, T, (0, pl)) r σ')) := by
    intro a t hk21 ha ht he
    have ha' := adv hk21
    have hc := trc_c (a := a) (by omega)
    unfold nest at he
    by_cases c8 : aro (P ++ B) < 8
    · rw [if_pos c8] at he
      refine zwp_mono (qM_107 (a := a) h c8 hp (by omega) ht ha (by rw [hk]; exact hk21)) (fun r σ1 ⟨q1, q2, q3, q4, q5⟩ => ?_)
      rw [hn] at q3
      refine ⟨q2, Or.inl ⟨q1, n, 2, a :: (P ++ B), c, by rw [epg, he], ha'.1, a :: P, c, ⟨hw, Or.inl ha⟩, ?_, ?_, q4, Or.inl ⟨by rw [q5]; exact h19, Or.inl rfl, rfl, rfl⟩⟩⟩
      · show aro (a :: (P ++ B)) ≤ 8
        rw [aro_s ha]; omega
      · show MX0 f L x n _ (aro (a :: (P ++ B))) σ1
        rw [aro_s ha]; exact q3
    · rw [if_neg c8] at he
      have hd8 : zrd σ 273 18 = 8 := by rw [h.2.2.2.2.2]; omega
      rw [qM_107_3 (by omega) hd8]
      exact hft 3 (by omega) he
  unfold fM_beginOne
  rw [zwp_let]
  by_cases k20 : k = 20
  · have hkn := KK_n2 hKK k20
    have hv0 := ((hts2 (by omega)).2.2.1 k20)
    rw [ifnn ((KK_nu hKK).2 k20), zwp_let]
    by_cases c9 : v ≤ 999
    · have e10 : zrd σ 273 10 = v := by omega
      rw [if_pos (by omega), zwp_let, e10]
      refine val 0 v v (by omega) ?_ ?_ rfl (zwj (by omega) (by omega)) ?_
      · unfold eno
        rw [if_pos (by omega)]
      · unfold eno2
        rw [if_pos (by omega)]
      · unfold tOne
        rw [if_neg (by omega), if_neg (by omega), if_neg (by omega), if_neg (by omega), if_pos k20, if_pos c9]
    · rw [if_neg (by omega)]
      refine hft 2 (by omega) ?_
      unfold tOne
      rw [if_neg (by omega), if_neg (by omega), if_neg (by omega), if_neg (by omega), if_pos k20, if_neg c9]
  · rw [if_pos (fun z => k20 ((KK_nu hKK).1 z)), zbi_eq (qM_nameOf hKK)]
    by_cases k19 : k = 19
    · have hv0 := ((hts2 (by omega)).2.2.2 k19)
      have hnb : nm v.toNat ≤ 20 := by
        unfold nm
        split
        · omega
        · split
          · omega
          · split <;> omega
      have ezw : zw ((nm v.toNat : Nat) : Int) = ((nm v.toNat : Nat) : Int) := zwj (by omega) (by omega)
      rw [if_pos k19, ezw, if_neg (by omega), zbi_eq (qM_nameOf hKK), if_pos k19, ezw, zbi_eq (M_isBarred h20 hso hv0)]
      by_cases cn : nks so v = true
      · rw [if_pos cn, if_pos (by rfl), zbi_eq (qM_nameOf hKK), if_pos k19, ezw]
        refine val 1 ((nm v.toNat : Nat) : Int) (1000 + v) (by omega) ?_ ?_ rfl ezw ?_
        · unfold eno
          rw [if_neg (by omega), if_pos (by omega)]
        · unfold eno2
          rw [if_neg (by omega), show (1000 + v - 1000).toNat = v.toNat by omega]
        · unfold tOne
          rw [if_neg (by omega), if_neg (by omega), if_neg (by omega), if_pos k19, if_pos cn]
      · rw [if_neg cn, if_neg (by decide)]
        refine hft 4 (by omega) ?_
        unfold tOne
        rw [if_neg (by omega), if_neg (by omega), if_neg (by omega), if_pos k19, if_neg cn]
    · rw [if_neg k19, if_pos (by decide), zwp_let]
      by_cases k0 : k = 0
      · rw [ifnn ((KK_lp hKK).2 k0)]
        refine nest' 0 40 (by omega) (Or.inl rfl) rfl ?_
        unfold tOne
        rw [if_pos k0]
      · rw [if_pos (fun z => k0 ((KK_lp hKK).1 z)), zwp_let]
        by_cases k11 : k = 11
        · rw [ifnn ((KK_mi hKK).2 k11)]
          refine nest' 14 2 (by omega) (Or.inr rfl) rfl ?_
          unfold tOne
          rw [if_neg k0, if_pos k11]
        · rw [if_pos (fun z => k11 ((KK_mi hKK).1 z)), qM_107_1]
          refine hft 1 (by omega) ?_
          unfold tOne
          rw [if_neg k0, if_neg k11, if_neg (by omega), if_neg k19, if_neg k20]
theorem rel_lo {l l' : Int} (h : l ≤ l') : ∀ (W c : List Int), rel l (rel l' W c).1 (rel l' W c).2 = rel l W c
  | [], c => rfl
  | a :: W, c => by
    have e1 : rel l' (a :: W) c = if l' ≤ zLv a.toNat then rel l' W (c ++ [2000 + a]) else (a :: W, c) := rfl
    have e2 : rel l (a :: W) c = if l ≤ zLv a.toNat then rel l W (c ++ [2000 + a]) else (a :: W, c) := rfl
    rw [e1]
    by_cases c1 : l' ≤ zLv a.toNat
    · rw [if_pos c1, rel_lo h W, e2, if_pos (by omega)]
    · rw [if_neg c1]
theorem rel_lo' {l l' : Int} {W c W' c' : List Int} (h : l ≤ l') (he : rel l' W c = (W', c')) : rel l W c = rel l W' c' := by
  rw [← rel_lo h W c, he]
theorem qM_goesOn {k v : Int} {P : List Int} {σ : Zm} (hK : KK k v σ) (hP : okP P) (h160 : P.length ≤ 160) (hp : PL P σ) : fM_goesOn σ = some (if (10 ≤ k ∧ k ≤ 13) ∨ (k = 15 ∧ par P ≠ 0) then 1 else 0, σ) := by
  unfold fM_goesOn
  simp only [zlet]
  by_cases k10 : k = 10
  · rw [if_pos ((KK_pl hK).2 k10), if_pos (by omega)]
  · rw [if_neg (fun z => k10 ((KK_pl hK).1 z))]
    by_cases k11 : k = 11
    · rw [if_pos ((KK_mi hK).2 k11), if_pos (by omega)]
    · rw [if_neg (fun z => k11 ((KK_mi hK).1 z))]
      by_cases k12 : k = 12
      · rw [if_pos ((KK_ti hK).2 k12), if_pos (by omega)]
      · rw [if_neg (fun z => k12 ((KK_ti hK).1 z))]
        by_cases k13 : k = 13
        · rw [if_pos ((KK_di hK).2 k13), if_pos (by omega)]
        · rw [if_neg (fun z => k13 ((KK_di hK).1 z))]
          by_cases k15 : k = 15
          · rw [ifnn ((KK_rp hK).2 k15), zbi_eq (M_hasParen hP h160 hp)]
            by_cases cp : par P ≠ 0
            · rw [if_pos cp, if_neg (by decide), if_pos (Or.inr ⟨k15, cp⟩)]
            · rw [if_neg cp, if_pos (by rfl), if_neg (by omega)]
          · rw [if_pos (fun z => k15 ((KK_rp hK).1 z)), if_neg (by omega)]
/-- behind a whole operand -/
theorem qM_behindOne {f : Nat → Int} {L x p : Nat} (hx : x < 6) {B : List Int} (hB : bB B) {so pr cm pl : Int} {W c1 c P c' : List Int} {T : List Cl} {σ : Zm} (hPI : PI L (p, (3, so, pr, cm), W, c1, c, T, (0, pl))) (hw : pw P) (har : aro (P ++ B) ≤ 8) (h : MX0 f L x p ((flat T ++ c1) ++ c') (aro (P ++ B)) σ) (hp : PL P σ) (hr7 : rel 7 W c = (P ++ B, c')) (hng : nng P) (hgo : (10 ≤ tk f L (ts f L p) ∧ tk f L (ts f L p) ≤ 13) ∨ (tk f L (ts f L p) = 15 ∧ par P ≠ 0)) : zwp (fM_behindOne σ) (fun r σ' => XF x σ σ' ∧ r = 0 ∧ ∃ p' du' W' c', pstep f L (p, (3, so, pr, cm), W, c1, c, T, (0, pl)) = (p', (du', so, pr, cm), W', c1, c', T, (0, pl)) ∧ p < p' ∧ SM f L x B (flat T ++ c1) p' du' W' c' σ') := by
  have hL := h.1.2.1
  have hp1 := hPI.1
  have hsum := hPI.2.2.1
  have hinW := hPI.2.2.2.1
  have hts := ts_bd (f := f) hp1
  have hKK := MX_KK h
  have haP : aro P ≤ 8 := by rw [aro_ap] at har; omega
  have hlen := (pw_len hw).1
  have hok := pw_ok hw
  have hrl := rel_len 7 W c
  rw [hr7] at hrl
  simp only [List.length_append] at hrl
  have hk21 : tk f L (ts f L p) ≠ 21 := by omega
  have adv := tnx_s (f := f) (tk_lt hk21)
  have epg : pstep f L (p, (3, so, pr, cm), W, c1, c, T, (0, pl)) = tBeh (tk f L (ts f L p)) (ts f L p : Int) (tnx f L (ts f L p)) 3 so pr cm W c1 c T pl := by
    rw [pstep_go (by omega)]
    unfold ptk
    rw [if_neg (by omega), if_pos rfl]
  have hlX : ((flat T ++ c1) ++ c').length + P.length ≤ 300 := by simp only [List.length_append]; omega
  generalize hk : tk f L (ts f L p) = k at *
  generalize hn : tnx f L (ts f L p) = n at *
  have ari : ∀ (x1 l a : Int), ((x1 = 3 ∧ l = 5) ∨ (x1 = 5 ∧ l = 6)) → 10 ≤ k ∧ k ≤ 13 → a = k → (if 11 < k then (6 : Int) else 5) = l → zwp (zbv (fM_settle σ x1) fun σ9 => zbv (fM_push σ9 (a - 7)) fun σ10 => zlet (zst σ10 273 19 0) fun σ11 => zbv (fM_nextToken σ11) fun σ12 => some (0, σ12)) (fun r σ' => XF x σ σ' ∧ r = 0 ∧ ∃ p' du' W' c', pstep f L (p, (3, so, pr, cm), W, c1, c, T, (0, pl)) = (p', (du', so, pr, cm), W', c1, c', T, (0, pl)) ∧ p < p' ∧ SM f L x B (flat T ++ c1) p' du' W' c' σ') := by
    intro x1 l a hxl hka ha hl
    subst ha
    rw [zwp_bv]
    refine zwp_mono (M_settle hx hB x1 l hxl σ hw hng (by omega) hlX h hp) (fun _ σ1 ⟨P', c2, q1, q2, q3, q4, q5, q6, q7, q8, q9, _, _⟩ => ?_)
    have har' : aro (P' ++ B) = aro (P ++ B) := by rw [aro_ap, aro_ap, q6]
    have hlen' := (pw_len q8).1
    obtain ⟨σ2, g1, g2, g3, g4, g5⟩ := M_push (a := a) (t := a - 7) q2 q3 (by omega) (by unfold trc; rw [if_neg (by omega), if_neg (by omega)]) (by omega)
    rw [zbv_eq g1]
    refine MX0_st g3 (Or.inr rfl) (fun σ3 y1 m1 e1 p1 => ?_)
    rw [zwp_bv]
    refine zwp_mono (M_next m1 (by rw [hk]; exact hk21)) (fun _ σ4 ⟨z1, z2, z3⟩ => ?_)
    rw [zwp_some]
    rw [hn] at z2
    have ew : rel (if 11 < a then (6 : Int) else 5) W c = (P' ++ B, c2) := by
      rw [hl, rel_lo' (show l ≤ 7 by omega) hr7]; exact q1
    have eao : aro ((a :: P') ++ B) = aro (P' ++ B) := aro_o (by omega)
    refine ⟨((q4.tr g2).tr y1).tr z1, rfl, n, 2, a :: (P' ++ B), c2, ?_, by omega, a :: P', c2, ⟨q8, ?_⟩, by rw [eao, har']; exact har, by rw [eao, har']; exact z2, PL_TR (PL_cg g4 (by rw [e1, if_neg (by decide)]) p1) z3, Or.inl ⟨by rw [z3.2 19 (by omega), e1, if_pos rfl]; rfl, Or.inl rfl, rfl, rfl⟩⟩
    · rw [epg]
      unfold tBeh
      rw [if_pos hka, ew]
    · by_cases c5 : l = 5
      · rw [if_pos c5] at q9
        refine Or.inr (Or.inl ⟨?_, q9⟩)
        rw [c5] at hl
        split at hl <;> omega
      · rw [if_neg c5] at q9
        refine Or.inr (Or.inr ⟨?_, q9⟩)
        have : l = 6 := by omega
        rw [this] at hl
        split at hl <;> omega
  unfold fM_behindOne
  rw [zwp_let]
  by_cases k10 : k = 10
  · have h9 := (KK_pl hKK).2 k10
    rw [if_pos h9]
    unfold fM_behindOne_17
    rw [h9]
    have e : zwp _ _ := ari 3 5 10 (by omega) (by omega) k10.symm (by rw [if_neg (by omega)])
    rw [zwp_bv] at e ⊢
    refine zwp_mono e (fun _ σ1 q => ?_)
    rw [ifnn rfl]
    exact q
  · rw [if_neg (fun z => k10 ((KK_pl hKK).1 z))]
    by_cases k11 : k = 11
    · have h9 := (KK_mi hKK).2 k11
      rw [ifnn h9]
      unfold fM_behindOne_17
      rw [h9]
      have e : zwp _ _ := ari 3 5 11 (by omega) (by omega) k11.symm (by rw [if_neg (by omega)])
      rw [zwp_bv] at e ⊢
      refine zwp_mono e (fun _ σ1 q => ?_)
      rw [if_pos (by decide)]
      exact q
    · rw [if_pos (fun z => k11 ((KK_mi hKK).1 z))]
      by_cases k12 : k = 12
      · have h9 := (KK_ti hKK).2 k12
        rw [if_pos h9]
        unfold fM_behindOne_57
        rw [h9]
        have e : zwp _ _ := ari 5 6 12 (by omega) (by omega) k12.symm (by rw [if_pos (by omega)])
        rw [zwp_bv] at e ⊢
        refine zwp_mono e (fun _ σ1 q => ?_)
        rw [ifnn rfl]
        exact q
      · rw [if_neg (fun z => k12 ((KK_ti hKK).1 z))]
        by_cases k13 : k = 13
        · have h9 := (KK_di hKK).2 k13
          rw [ifnn h9]
          unfold fM_behindOne_57
          rw [h9]
          have e : zwp _ _ := ari 5 6 13 (by omega) (by omega) k13.symm (by rw [if_pos (by omega)])
          rw [zwp_bv] at e ⊢
          refine zwp_mono e (fun _ σ1 q => ?_)
          rw [if_pos (by decide)]
          exact q
        · have hcp : k = 15 ∧ par P ≠ 0 := by
            rcases hgo with z | z
            · omega
            · exact z
          rw [if_pos (fun z => k13 ((KK_di hKK).1 z)), zwp_bv]
          refine zwp_mono (M_settle hx hB 3 5 (Or.inl ⟨rfl, rfl⟩) σ hw hng (by omega) hlX h hp) (fun _ σ1 ⟨P', c2, q1, q2, q3, q4, q5, q6, q7, q8, q9, _, q11⟩ => ?_)
          have har' : aro (P' ++ B) = aro (P ++ B) := by rw [aro_ap, aro_ap, q6]
          have q11' := q11 hcp.2 rfl
          rw [if_pos rfl] at q9
          have hP0 : ∃ P2, P' = 0 :: P2 := by
            match P', q7, q9 with
            | [], q7, _ => exact absurd q7.symm hcp.2
            | b :: P2, _, q9 =>
              have : b = 0 := q9
              exact ⟨P2, by rw [this]⟩
          obtain ⟨P2, hP2⟩ := hP0
          subst hP2
          have hlen' := (pw_len q8).1
          have e3 : aro ((0 :: P2) ++ B) = aro (P2 ++ B) + 1 := aro_s (Or.inl rfl)
          rw [← har', e3] at q2
          have haP2 : aro (0 :: P2) = aro P2 + 1 := aro_s (Or.inl rfl)
          simp only [List.length_cons] at hlen'
          have hrl5 := rel_len 5 (P ++ B) c'
          rw [q1] at hrl5
          simp only [List.length_append, List.length_cons] at hrl5
          rw [zwp_let, q3.1]
          refine PL_pop q2 q3 (by omega) (fun σ2 x2 m2 p2 k2 _ => ?_)
          rw [zwp_let, m2.2.2.2.2.2]
          refine MX0_18 (d' := aro (P2 ++ B)) m2 (by rw [zwj (by omega) (by omega)]; omega) (fun σ3 x3 m3 k3 r3 => ?_)
          rw [zwp_bv]
          refine zwp_mono (M_whole hx hB σ3 (pw_ok q8.1) (by omega) (by simp only [List.length_append]; omega) m3 (by omega) (PL_cg p2 (k3 17 (by omega)) r3)) (fun _ σ4 ⟨P3, c3, w1, w2, w3, w4, w5, q, w6, w7⟩ => ?_)
          rw [zwp_bv]
          refine zwp_mono (M_next w2 (by rw [hk]; exact hk21)) (fun _ σ5 ⟨z1, z2, z3⟩ => ?_)
          rw [zwp_some]
          rw [hn] at z2
          have hpar : par W ≠ 0 := by
            have e1 := rel_par 7 (by omega) W c hinW
            rw [hr7] at e1
            rw [← e1]
            show par (P ++ B) ≠ 0
            rw [par_ap]; omega
          have ew : rel 1 W c = ((0 :: P2) ++ B, c2) := by
            rw [rel_lo' (show (1 : Int) ≤ 7 by omega) hr7]; exact q11'
          have hw2 : pw (q ++ P3) := by rw [← w6]; exact q8.1
          have har3 : aro (P3 ++ B) ≤ 8 := by
            have e5 : aro (P2 ++ B) = aro q + aro (P3 ++ B) := by rw [w6, List.append_assoc, aro_ap]
            omega
          refine ⟨(((q4.tr x2).tr x3).tr w4).tr z1, rfl, n, 3, P2 ++ B, c2, ?_, by omega, P3, c3, pw_drop hw2, har3, z2, PL_TR w3 z3, Or.inr ⟨by rw [z3.2 19 (by omega)]; exact w5, rfl, w1, ?_⟩⟩
          · rw [epg]
            unfold tBeh
            rw [if_neg (by omega), if_pos ⟨hcp.1, hpar⟩, ew]
            rfl
          · rcases w7 with z | ⟨b2, P4, z, z4⟩
            · rw [z]; trivial
            · rw [z]; exact z4
theorem SM_par {f : Nat → Int} {L x p : Nat} {B X W c P c' : List Int} (hB : bB B) (hinW : inW W) (hr7 : rel 7 W c = (P ++ B, c')) : par W = par P := by
  have e1 := rel_par 7 (by omega) W c hinW
  rw [hr7] at e1
  have e2 : par (P ++ B) = par W := e1
  rw [par_ap, par_B hB] at e2
  omega
theorem pM_summed_10 {f : Nat → Int} {L x : Nat} (hx : x < 6) {B : List Int} (hB : bB B) {so pr cm pl : Int} {c1 : List Int} {T : List Cl} (hso : 0 ≤ so ∧ so ≤ 3) (σ0 : Zm) (h20 : zrd σ0 273 20 = so + 1) (S0 : PS) (p0 : Nat) (Q : Int → Zm → Prop) (K : Zm → Zr)
    (hK : ∀ σ' p' W' c', XF x σ0 σ' → p0 ≤ p' → Rc f L S0 (p', (3, so, pr, cm), W', c1, c', T, (0, pl)) → PI L (p', (3, so, pr, cm), W', c1, c', T, (0, pl)) → SM f L x B (flat T ++ c1) p' 3 W' c' σ' → ¬ ((10 ≤ tk f L (ts f L p') ∧ tk f L (ts f L p') ≤ 13) ∨ (tk f L (ts f L p') = 15 ∧ par W' ≠ 0)) → zwp (K σ') Q)
    (hQ : ∀ r σ', XF x σ0 σ' → FTx f L S0 r σ' → Q r σ') : ∀ (dd m p : Nat) (du : Int) (W c : List Int) (σ : Zm), dd < m → L < p + dd → p0 ≤ p → PI L (p, (du, so, pr, cm), W, c1, c, T, (0, pl)) → Rc f L S0 (p, (du, so, pr, cm), W, c1, c, T, (0, pl)) → XF x σ0 σ → SM f L x B (flat T ++ c1) p du W c σ → zwp (fM_summed_10 m σ K) Q
  | 0, m, p, du, W, c, σ, _, h, _, hPI, _, _, _ => by
    have := hPI.1
    omega
  | dd + 1, m + 1, p, du, W, c, σ, hm, hd, hp0, hPI, hRc, hXF, hSM => by
    have h20' : zrd σ 273 20 = so + 1 := by rw [hXF.2.1 20 (by unfold dyn; omega)]; exact h20
    obtain ⟨P, c', s1, s2, s3, s4', s5⟩ := id hSM
    have haP : aro P ≤ 8 := by rw [aro_ap] at s2; omega
    have hlen := (pw_len s1).1
    have back : ∀ σ1, XF x σ σ1 → (∃ p' du' W' c', pstep f L (p, (du, so, pr, cm), W, c1, c, T, (0, pl)) = (p', (du', so, pr, cm), W', c1, c', T, (0, pl)) ∧ p < p' ∧ SM f L x B (flat T ++ c1) p' du' W' c' σ1) → (du = 1 ∨ du = 2 ∨ du = 3) → zwp (fM_summed_10 m σ1 K) Q := by
      rintro σ1 x1 ⟨p', du', W', c', e, hlt, hs⟩ hdu
      have hPI' := (PI_step (f := f) _ hPI (fun z => by rcases z with z | z; exact z rfl; omega)).1
      rw [e] at hPI'
      exact pM_summed_10 hx hB hso σ0 h20 S0 p0 Q K hK hQ dd m p' du' W' c' σ1 (by omega) (by omega) (by omega) hPI' (hRc.tr (Rc.st (by rw [e]; exact Rc.rf))) (hXF.tr x1) hs
    rw [fM_summed_10]
    simp only [zwp_let]
    rcases s5 with ⟨h19, hdu, hW, hc⟩ | ⟨h19, hdu, hr7, hng⟩
    · subst hW hc
      rw [h19, if_pos rfl]
      unfold fM_summed_24
      rw [zwp_let, h19, if_pos rfl, zwp_bi]
      refine zwp_mono (qM_beginOne hx hB hPI hso h20' hdu s1 s2 s3 s4' h19) (fun r σ1 ⟨x1, q⟩ => ?_)
      rcases q with ⟨q1, q2⟩ | q
      · rw [q1, show zw 0 = 0 from rfl, if_pos rfl]
        exact back σ1 x1 q2 (by omega)
      · have hr := q.1
        rw [zwj (a := r) (by omega) (by omega), if_neg (by omega), zwp_some]
        exact hQ r σ1 (hXF.tr x1) (q.st hRc)
    · subst hdu
      have hpar : par W = par P := SM_par (f := f) (L := L) (x := x) (p := p) (X := []) hB hPI.2.2.2.1 hr7
      rw [h19, if_neg (by decide), zbi_eq (qM_goesOn (MX_KK s3) (pw_ok s1) (by omega) s4')]
      by_cases hgo : (10 ≤ tk f L (ts f L p) ∧ tk f L (ts f L p) ≤ 13) ∨ (tk f L (ts f L p) = 15 ∧ par P ≠ 0)
      · rw [if_pos hgo, if_neg (by decide)]
        unfold fM_summed_24
        rw [zwp_let, h19, if_neg (by decide), zwp_bi]
        refine zwp_mono (qM_behindOne hx hB hPI s1 s2 s3 s4' hr7 hng hgo) (fun r σ1 ⟨x1, q1, q2⟩ => ?_)
        rw [q1, show zw 0 = 0 from rfl, if_pos rfl]
        exact back σ1 x1 q2 (by omega)
      · rw [if_neg hgo, if_pos (by rfl)]
        exact hK σ p W c hXF hp0 hRc hPI hSM (by rw [hpar]; exact hgo)
/-- a sum, read -/
theorem qM_summed {f : Nat → Int} {L x p : Nat} (hx : x < 6) {B : List Int} (hB : bB B) {du so pr cm pl : Int} {c1 c : List Int} {T : List Cl} {σ : Zm} (hso : 0 ≤ so ∧ so ≤ 3) (h20 : zrd σ 273 20 = so + 1) (hPI : PI L (p, (du, so, pr, cm), B, c1, c, T, (0, pl))) (hdu : du = 2 ∨ (du = 1 ∧ tk f L (ts f L p) ≠ 3)) (har : aro B ≤ 8) (h : MX0 f L x p ((flat T ++ c1) ++ c) (aro B) σ) : zwp (fM_summed σ) (fun r σ' => XF x σ σ' ∧ ((r = 0 ∧ ∃ p' W' c' c2, p ≤ p' ∧ Rc f L (p, (du, so, pr, cm), B, c1, c, T, (0, pl)) (p', (3, so, pr, cm), W', c1, c', T, (0, pl)) ∧ PI L (p', (3, so, pr, cm), W', c1, c', T, (0, pl)) ∧ rel 5 W' c' = (B, c2) ∧ MX0 f L x p' ((flat T ++ c1) ++ c2) (aro B) σ' ∧ ¬ (10 ≤ tk f L (ts f L p') ∧ tk f L (ts f L p') ≤ 13) ∧ par W' = 0) ∨ FTx f L (p, (du, so, pr, cm), B, c1, c, T, (0, pl)) r σ')) := by
  have hL := h.1.2.1
  unfold fM_summed
  refine MX0_st h (Or.inl rfl) (fun σ1 x1 m1 e1 p1 => ?_)
  refine MX0_st m1 (Or.inr rfl) (fun σ2 x2 m2 e2 p2 => ?_)
  have hXF := x1.tr x2
  refine pM_summed_10 hx hB hso σ h20 _ p _ _ ?_ ?_ (L + 1) 5000 p du B c σ2 (by omega) (by omega) (Nat.le_refl _) hPI Rc.rf hXF ⟨[], c, trivial, har, m2, ⟨by rw [e2, if_neg (by decide), e1, if_pos rfl]; rfl, trivial⟩, Or.inl ⟨by rw [e2, if_pos rfl]; rfl, hdu, rfl, rfl⟩⟩
  · intro σ3 p' W' c' x3 hp0 hRc hPI' hSM hgo
    obtain ⟨P, c0, s1, s2, s3, s4', s5⟩ := hSM
    have haP : aro P ≤ 8 := by rw [aro_ap] at s2; omega
    have hlen := (pw_len s1).1
    rcases s5 with ⟨_, hd, _⟩ | ⟨h19, _, hr7, hng⟩
    · omega
    have hpar : par W' = par P := SM_par (f := f) (L := L) (x := x) (p := p) (X := []) hB hPI'.2.2.2.1 hr7
    have hsum := hPI'.2.2.1
    have hrl := rel_len 7 W' c'
    rw [hr7] at hrl
    simp only [List.length_append] at hrl
    have hp1 := hPI'.1
    rw [zwp_bv]
    refine zwp_mono (M_settle hx hB 3 5 (Or.inl ⟨rfl, rfl⟩) σ3 s1 hng (by omega) (by simp only [List.length_append]; omega) s3 s4') (fun _ σ4 ⟨P', c2, q1, q2, q3, q4, q5, q6, q7, q8, q9, q10, _⟩ => ?_)
    rw [zwp_let, q3.1]
    by_cases c0' : par P = 0
    · have hP' := q10 c0' rfl
      subst hP'
      rw [if_pos (by simp), zwp_some]
      refine ⟨x3.tr q4, Or.inl ⟨rfl, p', W', c', c2, hp0, hRc, hPI', ?_, ?_, fun z => hgo (Or.inl z), by rw [hpar]; exact c0'⟩⟩
      · rw [rel_lo' (show (5 : Int) ≤ 7 by omega) hr7]; exact q1
      · have e : aro (P ++ B) = aro B := by
          rw [aro_ap]
          have : aro P = 0 := by rw [← q6]; rfl
          omega
        rw [e] at q2
        exact q2
    · have hne : P'.length ≠ 0 := by
        intro z
        have : P' = [] := List.length_eq_zero_iff.1 z
        rw [this] at q7
        exact c0' q7.symm
      rw [if_neg (by omega), zwp_some]
      have h8 : zrd σ4 273 8 = (ts f L p' : Int) := q2.2.1.1
      refine ⟨x3.tr q4, Or.inr ((FT_now (by omega) (by omega) ?_ h8).st hRc)⟩
      unfold ptk tBeh
      rw [if_neg (by omega), if_pos rfl, if_neg (fun z => hgo (Or.inl z)), if_neg (fun z => hgo (Or.inr z)), if_neg (fun z => c0' (by rw [← hpar]; exact z.2.1)), if_neg (fun z => c0' (by rw [← hpar]; exact z.2.1)), if_neg (fun z => c0' (by rw [← hpar]; exact z.2.1)), if_neg (fun z => c0' (by rw [← hpar]; exact z.2.1))]
  · intro r σ3 x3 hf
    exact ⟨x3, Or.inr hf⟩

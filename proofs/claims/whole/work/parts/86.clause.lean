/-! MY OWN: a clause, a text, as the reference reads them -/
def HS (σ : Zm) (x : Nat) (T : List Cl) : Prop := HM σ x T 0 0 ∧ zrd σ 276 (900 * x) = (T.length : Int)
theorem HS_cg {σ σ' : Zm} {x : Nat} {T : List Cl} (h : HS σ x T) (hc : ∀ j, 900 * x ≤ j → j < 900 * x + 1 + 5 * T.length → zrd σ' 276 j = zrd σ 276 j) : HS σ' x T := ⟨HM_cg T 0 0 (fun j a b => hc j (by omega) (by omega)) h.1, by rw [hc _ (by omega) (by omega)]; exact h.2⟩
/-- the head of the clause under way -/
def HH (σ : Zm) (x : Nat) (v : Int) (a b : Nat) (T : List Cl) : Prop := zrd σ 276 (900 * x + 1 + 5 * T.length) = v + 1 ∧ (v < 2 → zrd σ 276 (900 * x + 1 + 5 * T.length + 3) = (a : Int) ∧ zrd σ 276 (900 * x + 1 + 5 * T.length + 4) = ((a + b : Nat) : Int))
def ZC (f : Nat → Int) (L x : Nat) (S : PS) (σ σ' : Zm) (r pl : Int) (p : Nat) : Prop := XG x σ σ' ∧ ((r = 0 ∧ ∃ p' so' pr' cm' W' T', p < p' ∧ Rc f L S (p', (0, so', pr', cm'), W', [], [], T', (0, pl)) ∧ PI L (p', (0, so', pr', cm'), W', [], [], T', (0, pl)) ∧ MX0 f L x p' (flat T') 0 σ' ∧ HS σ' x T') ∨ FTx f L S r σ')
theorem qM_clause_72 {f : Nat → Int} {L x p : Nat} (hx : x < 6) {v pl : Int} {c1 : List Int} {T : List Cl} {σ : Zm} (hv : 0 ≤ v ∧ v ≤ 3) (h20 : zrd σ 273 20 = v + 1) (hPI : PI L (p, (1, v, 0, 0), [], c1, [], T, (0, pl))) (h : MX0 f L x p ((flat T ++ c1) ++ []) 0 σ) (hS : HS σ x T) (hH : HH σ x v (flat T).length c1.length T) : zwp (fM_clause_72 ((900 * x + 1 + 5 * T.length : Nat) : Int) 0 σ) (fun r σ' => ZC f L x (p, (1, v, 0, 0), [], c1, [], T, (0, pl)) σ σ' r pl p) := by
  have hL := h.1.2.1
  have hT := hPI.2.2.2.2.2.1 (by omega)
  have hp1 := hPI.1
  have hsum := hPI.2.2.1
  have hlX : ((flat T ++ c1) ++ ([] : List Int)).length = (flat T).length + c1.length := by simp only [List.length_append, List.length_nil]; omega
  unfold fM_clause_72
  rw [if_pos rfl, zwp_let, h.2.2.2.1, hlX, show zw (((900 * x + 1 + 5 * T.length : Nat) : Int) + 1) = ((900 * x + 1 + 5 * T.length + 1 : Nat) : Int) by rw [zwj (by omega) (by omega)]; omega, zckj (by omega) (by omega), Int.toNat_natCast]
  refine MX0_276 h ⟨by omega, by omega⟩ (fun σ1 x1 m1 e1 k1 => ?_)
  rw [zwp_bi]
  unfold fM_either
  refine zwp_mono (pM_either_6 (f := f) (L := L) hx hv σ1 (by rw [k1]; exact h20) (p, (1, v, 0, 0), [], c1, [], T, (0, pl)) p (L + 1) 5000 p 0 0 [] σ1 (by omega) (by omega) (Nat.le_refl _) hPI Rc.rf XF.rf m1) (fun r σ2 ⟨x2, q⟩ => ?_)
  rcases q with ⟨q0, p', W', c', c2, hlt, hRc, hPI', hr1, m2, hna, hpar, hn1, hn2⟩ | q
  · subst q0
    have hsum' := hPI'.2.2.1
    have hp'L := hPI'.1
    have hrl : ([] : List Int).length + c2.length = W'.length + c'.length := by
      have := rel_len 1 W' c'
      rw [hr1] at this
      exact this
    simp only [List.length_nil, Nat.zero_add] at hrl
    have hlX2 : ((flat T ++ c1) ++ c2).length = (flat T).length + c1.length + c2.length := by simp only [List.length_append]
    rw [show zw 0 = 0 from rfl, if_pos rfl, zwp_let, m2.2.2.2.1, hlX2, show zw (((900 * x + 1 + 5 * T.length : Nat) : Int) + 2) = ((900 * x + 1 + 5 * T.length + 2 : Nat) : Int) by rw [zwj (by omega) (by omega)]; omega, zckj (by omega) (by omega), Int.toNat_natCast]
    refine MX0_276 m2 ⟨by omega, by omega⟩ (fun σ3 x3 m3 e3 k3 => ?_)
    have h0 : zrd σ3 276 (900 * x) = (T.length : Int) := by rw [e3, if_neg (by omega), x2.2.2 _ (by omega), e1, if_neg (by omega)]; exact hS.2
    rw [zwp_let, m3.2.2.1, zckj (by omega) (by omega), zwp_let, Int.toNat_natCast, h0, zckj (by omega) (by omega)]
    refine MX0_276 m3 ⟨by omega, by omega⟩ (fun σ4 x4 m4 e4 k4 => ?_)
    have hx4 := ((x1.tr x2.g).tr x3).tr x4
    have hKK := MX_KK m4
    rw [zwp_let]
    by_cases k16 : tk f L (ts f L p') = 16
    · rw [if_pos ((KK_se hKK).2 k16), zwp_bv]
      refine zwp_mono (M_next m4 (by omega)) (fun _ σ5 ⟨x5, m5, _⟩ => ?_)
      rw [zwp_some]
      have epg : pstep f L (p', (3, v, 0, 1), W', c1, c', T, (0, pl)) = (tnx f L (ts f L p'), (0, v, 0, 1), [], [], [], T ++ [(v, c1, c2)], (0, pl)) := by
        rw [pstep_go (by omega)]
        unfold ptk tBeh
        rw [if_neg (by omega), if_pos rfl, if_neg hna, if_neg (fun z => z.2 hpar), if_neg (fun z => absurd z.2.2.2 (by decide)), if_neg (fun z => z.1.elim hn1 hn2), if_neg (fun z => z.2.2 rfl), if_pos ⟨k16, hpar, rfl, by decide⟩, hr1]
      have hPI3 := (PI_step (f := f) _ hPI' (fun z => by rcases z with z | z; exact z rfl; omega)).1
      rw [epg] at hPI3
      have adv := tnx_s (f := f) (tk_lt (f := f) (L := L) (s := ts f L p') (by omega))
      have hts := ts_bd (f := f) hp'L
      have efl : flat (T ++ [(v, c1, c2)]) = (flat T ++ c1) ++ c2 := by
        rw [flat_ap]
        show flat T ++ (c1 ++ (c2 ++ [])) = _
        rw [List.append_nil, List.append_assoc]
      -- what lies where
      have g : ∀ j, 900 * x ≤ j → j < 900 * x + 60 → zrd σ5 276 j = if j = 900 * x then ((T.length + 1 : Nat) : Int) else if j = 900 * x + 1 + 5 * T.length + 2 then (((flat T).length + c1.length + c2.length : Nat) : Int) else if j = 900 * x + 1 + 5 * T.length + 1 then (((flat T).length + c1.length : Nat) : Int) else zrd σ 276 j := by
        intro j a b
        rw [x5.2.2 _ (by omega), e4]
        split
        · rw [zwj (by omega) (by omega)]; omega
        · rw [e3]
          split
          · rw [zwj (by omega) (by omega)]
          · rw [x2.2.2 _ (by omega), e1]
            split
            · rw [zwj (by omega) (by omega)]
            · rfl
      refine ⟨hx4.tr x5.g, Or.inl ⟨rfl, tnx f L (ts f L p'), v, 0, 1, [], T ++ [(v, c1, c2)], by omega, hRc.tr (Rc.st (by rw [epg]; exact Rc.rf)), hPI3, by rw [efl]; exact m5, ?_, ?_⟩⟩
      · refine HM_ap v c1 c2 T 0 0 (HM_cg T 0 0 (fun j a b => ?_) hS.1) ?_ ?_ ?_ (fun hv2 => ?_)
        · rw [g j (by omega) (by omega), if_neg (by omega), if_neg (by omega), if_neg (by omega)]
        · rw [Nat.zero_add, g _ (by omega) (by omega), if_neg (by omega), if_neg (by omega), if_neg (by omega)]
          exact hH.1
        · rw [Nat.zero_add, Nat.zero_add, g _ (by omega) (by omega), if_neg (by omega), if_neg (by omega), if_pos rfl]
        · rw [Nat.zero_add, Nat.zero_add, g _ (by omega) (by omega), if_neg (by omega), if_pos rfl]
        · rw [Nat.zero_add, Nat.zero_add, g _ (by omega) (by omega), if_neg (by omega), if_neg (by omega), if_neg (by omega), g _ (by omega) (by omega), if_neg (by omega), if_neg (by omega), if_neg (by omega)]
          exact hH.2 hv2
      · rw [g _ (by omega) (by omega), if_pos rfl]
        simp
    · rw [if_neg (fun z => k16 ((KK_se hKK).1 z)), zwp_some]
      refine ⟨hx4, Or.inr ((FT_now (by omega) (by omega) ?_ m4.2.1.1).st hRc)⟩
      unfold ptk tBeh
      rw [if_neg (by omega), if_pos rfl, if_neg hna, if_neg (fun z => z.2 hpar), if_neg (fun z => absurd z.2.2.2 (by decide)), if_neg (fun z => z.1.elim hn1 hn2), if_neg (fun z => z.2.2 rfl), if_neg (fun z => k16 z.1)]
  · have hr := q.1
    rw [zwj (a := r) (by omega) (by omega), if_neg (by omega), zwp_some]
    exact ⟨x1.tr x2.g, Or.inr q⟩
theorem qM_clause_72r {r h : Int} {σ : Zm} (hr : r ≠ 0) : fM_clause_72 h r σ = some (r, σ) := by
  unfold fM_clause_72
  rw [if_neg hr]
theorem qM_clause {f : Nat → Int} {L x p : Nat} (hx : x < 6) {so pr cm pl : Int} {W : List Int} {T : List Cl} {σ : Zm} (hPI : PI L (p, (0, so, pr, cm), W, [], [], T, (0, pl))) (h : MX0 f L x p (flat T) 0 σ) (hS : HS σ x T) (hk21 : tk f L (ts f L p) ≠ 21) : zwp (fM_clause σ) (fun r σ' => ZC f L x (p, (0, so, pr, cm), W, [], [], T, (0, pl)) σ σ' r pl p) := by
  have hL := h.1.2.1
  have hKK := MX_KK h
  have hp1 := hPI.1
  have hsum := hPI.2.2.1
  simp only [List.length_nil] at hsum
  have hT10 := hPI.2.2.2.2.1
  have hts := ts_bd (f := f) hp1
  have hts2 := tk_s (f := f) (L := L) (s := ts f L p) (tk_lt hk21)
  have adv := tnx_s (f := f) (tk_lt hk21)
  have ept : pstep f L (p, (0, so, pr, cm), W, [], [], T, (0, pl)) = tSort (tk f L (ts f L p)) (tvl f L (ts f L p)) (ts f L p : Int) (tnx f L (ts f L p)) 0 so pr cm W [] [] T pl := by
    rw [pstep_go (by omega)]
    unfold ptk
    rw [if_pos rfl]
  have ft : ∀ r, 1 ≤ r ∧ r ≤ 5 → tSort (tk f L (ts f L p)) (tvl f L (ts f L p)) (ts f L p : Int) (tnx f L (ts f L p)) 0 so pr cm W [] [] T pl = (tnx f L (ts f L p), (0, so, pr, cm), W, [], [], T, (r, (ts f L p : Int))) → FTx f L (p, (0, so, pr, cm), W, [], [], T, (0, pl)) r σ := by
    intro r hr he
    exact ⟨hr, _, Rc.st Rc.rf, by rw [ept, he, h.2.1.1]⟩
  have hPI1 := (PI_step (f := f) _ hPI (fun z => by rcases z with z | z; exact z rfl; omega)).1
  have hMN := fun (σ : Zm) (h : MX0 f L x p (flat T) 0 σ) => M_next h hk21
  generalize hk : tk f L (ts f L p) = k at *
  generalize hvv : tvl f L (ts f L p) = v at *
  generalize hn : tnx f L (ts f L p) = n at *
  have hz : zw (if k = 18 then v + 1 else 0) = if k = 18 then v + 1 else 0 := by
    split
    · have := hts2.2.1 (by assumption)
      exact zwj (by omega) (by omega)
    · rfl
  unfold fM_clause
  rw [zbi_eq (qM_sortOf hKK hts2.2.1), hz]
  by_cases k18 : k = 18
  · have hv := hts2.2.1 k18
    rw [if_pos k18, if_pos (by omega), zwp_let, h.2.2.1, zckj (by omega) (by omega), zwp_let, Int.toNat_natCast, hS.2]
    unfold tSort at ept ft
    rw [if_neg hk21, if_pos k18] at ept
    by_cases hT : T.length < 10
    · rw [if_pos hT] at ept
      rw [if_pos (by omega)]
      rw [ept] at hPI1
      have hRc1 : Rc f L (p, (0, so, pr, cm), W, [], [], T, (0, pl)) (n, (if v = 0 ∨ v = 1 then 2 else 1, v, if v = 0 ∨ v = 1 then 1 else 0, 0), [], [], [], T, (0, pl)) := Rc.st (by rw [ept]; exact Rc.rf)
      refine MX0_20 h (fun σ1 x1 m1 e20 e1 => ?_)
      rw [zwj (by omega) (by omega)] at e20
      rw [zwp_bv]
      refine zwp_mono (hMN σ1 m1) (fun _ σ2 ⟨x2, m2, _⟩ => ?_)
      rw [zwp_let, zwp_let, m2.2.2.1, show zw (((900 * x : Nat) : Int) + 1 + 5 * (T.length : Int)) = ((900 * x + 1 + 5 * T.length : Nat) : Int) by rw [zwj (by omega) (by omega)]; omega, zckj (by omega) (by omega), Int.toNat_natCast]
      refine MX0_276 m2 ⟨by omega, by omega⟩ (fun σ3 x3 m3 e3 k3 => ?_)
      have h20 : zrd σ3 273 20 = v + 1 := by rw [k3, x2.2.1 20 (by unfold dyn; omega)]; exact e20
      have x13 := (x1.tr x2.g).tr x3
      have hS3 : HS σ3 x T := HS_cg hS (fun j a b => by rw [e3, if_neg (by omega), x2.2.2 _ (by omega), e1])
      have eh : zrd σ3 276 (900 * x + 1 + 5 * T.length) = v + 1 := by rw [e3, if_pos rfl, zwj (by omega) (by omega)]
      by_cases hv2 : v < 2
      · have hv01 : v = 0 ∨ v = 1 := by omega
        rw [if_pos hv01, if_pos hv01] at hPI1 hRc1
        rw [if_neg (by omega)]
        have hlf : ((flat T).length : Int) ≤ 300 := by omega
        unfold fM_priced
        rw [zwp_bi, zwp_let, m3.2.2.2.1, show zw (((900 * x + 1 + 5 * T.length : Nat) : Int) + 3) = ((900 * x + 1 + 5 * T.length + 3 : Nat) : Int) by rw [zwj (by omega) (by omega)]; omega, zckj (by omega) (by omega), Int.toNat_natCast]
        refine MX0_276 m3 ⟨by omega, by omega⟩ (fun σ4 x4 m4 e4 k4 => ?_)
        rw [zwp_bi]
        have m4' : MX0 f L x n ((flat T ++ []) ++ []) (aro []) σ4 := by
          rw [List.append_nil, List.append_nil]; exact m4
        refine zwp_mono (qM_summed hx (B := []) (fun b hb => absurd hb (by simp)) hv (by rw [k4]; exact h20) hPI1 (Or.inl rfl) (by decide) m4') (fun r σ5 ⟨x5, q⟩ => ?_)
        rcases q with ⟨q0, p2, W2, c2, c3, hle, hRc2, hPI2, hr5, m5, hna, hpar⟩ | q
        · subst q0
          have hsum2 := hPI2.2.2.1
          have hp2L := hPI2.1
          have hrl : ([] : List Int).length + c3.length = W2.length + c2.length := by
            have := rel_len 5 W2 c2
            rw [hr5] at this
            exact this
          simp only [List.length_nil, Nat.zero_add, Nat.add_zero] at hrl hsum2
          have hlX : ((flat T ++ []) ++ c3).length = (flat T).length + c3.length := by simp only [List.length_append, List.length_nil]; omega
          rw [show zw 0 = 0 from rfl, if_pos rfl, zwp_let, m5.2.2.2.1, hlX, show zw (((900 * x + 1 + 5 * T.length : Nat) : Int) + 4) = ((900 * x + 1 + 5 * T.length + 4 : Nat) : Int) by rw [zwj (by omega) (by omega)]; omega, zckj (by omega) (by omega), Int.toNat_natCast]
          refine MX0_276 m5 ⟨by omega, by omega⟩ (fun σ6 x6 m6 e6 k6 => ?_)
          have hKK6 := MX_KK m6
          have x16 := ((x13.tr x4).tr x5.g).tr x6
          rw [wk_when, word_eq hKK6 (i := 4) (w := 2003330414) (by decide) (by decide), show wkd ((4 : Nat) : Int) = 17 by rfl]
          by_cases k17 : tk f L (ts f L p2) = 17
          · rw [if_pos ⟨k17, fun z => by omega⟩, if_pos (by decide), zwp_bv]
            refine zwp_mono (M_next m6 (by omega)) (fun _ σ7 ⟨x7, m7, _⟩ => ?_)
            rw [zwp_some, show zw 0 = 0 from rfl]
            have epg : pstep f L (p2, (3, v, 1, 0), W2, [], c2, T, (0, pl)) = (tnx f L (ts f L p2), (1, v, 0, 0), [], c3, [], T, (0, pl)) := by
              rw [pstep_go (by omega)]
              unfold ptk tBeh
              rw [if_neg (by omega), if_pos rfl, if_neg hna, if_neg (fun z => z.2 hpar), if_neg (fun z => absurd z.2.2.1 (by decide)), if_neg (fun z => absurd z.2.2.1 (by decide)), if_pos ⟨k17, hpar, by decide⟩, rel_lo' (show (1 : Int) ≤ 5 by omega) hr5]
              rfl
            have hPI3 := (PI_step (f := f) _ hPI2 (fun z => by rcases z with z | z; exact z rfl; omega)).1
            rw [epg] at hPI3
            have adv2 := tnx_s (f := f) (tk_lt (f := f) (L := L) (s := ts f L p2) (by omega))
            have hts3 := ts_bd (f := f) hp2L
            have hRc3 : Rc f L (p, (0, so, pr, cm), W, [], [], T, (0, pl)) (tnx f L (ts f L p2), (1, v, 0, 0), [], c3, [], T, (0, pl)) := (hRc1.tr hRc2).tr (Rc.st (by rw [epg]; exact Rc.rf))
            have g : ∀ j, 900 * x ≤ j → j < 900 * x + 60 → zrd σ7 276 j = if j = 900 * x + 1 + 5 * T.length + 4 then (((flat T).length + c3.length : Nat) : Int) else if j = 900 * x + 1 + 5 * T.length + 3 then ((flat T).length : Int) else zrd σ3 276 j := by
              intro j a b
              rw [x7.2.2 _ (by omega), e6]
              split
              · rw [zwj (by omega) (by omega)]
              · rw [x5.2.2 _ (by omega), e4]
                split
                · rw [zwj (by omega) (by omega)]
                · rfl
            have m7' : MX0 f L x (tnx f L (ts f L p2)) ((flat T ++ c3) ++ []) 0 σ7 := by
              rw [List.append_nil] at m7 ⊢
              exact m7
            refine zwp_mono (qM_clause_72 hx hv ?_ hPI3 m7' (HS_cg hS3 (fun j a b => by rw [g j (by omega) (by omega), if_neg (by omega), if_neg (by omega)])) ⟨?_, fun _ => ⟨?_, ?_⟩⟩) (fun r σ8 ⟨w1, w2⟩ => ⟨(x16.tr x7.g).tr w1, ?_⟩)
            · rw [x7.2.1 20 (by unfold dyn; omega), k6, x5.2.1 20 (by unfold dyn; omega), k4]; exact h20
            · rw [g _ (by omega) (by omega), if_neg (by omega), if_neg (by omega)]; exact eh
            · rw [g _ (by omega) (by omega), if_neg (by omega), if_pos rfl]
            · rw [g _ (by omega) (by omega), if_pos rfl]
            · rcases w2 with ⟨w2, p', a1, a2, a3, a4, a5, b1, b2, b3⟩ | w2
              · exact Or.inl ⟨w2, p', a1, a2, a3, a4, a5, by omega, hRc3.tr b2, b3⟩
              · exact Or.inr (w2.st hRc3)
          · rw [if_neg (fun z => k17 z.1), ifnn rfl, zwp_some, show zw 1 = 1 from rfl, qM_clause_72r (by decide), zwp_some]
            refine ⟨x16, Or.inr ((FT_now (by omega) (by omega) ?_ m6.2.1.1).st (hRc1.tr hRc2))⟩
            unfold ptk tBeh
            rw [if_neg (by omega), if_pos rfl, if_neg hna, if_neg (fun z => z.2 hpar), if_neg (fun z => absurd z.2.2.1 (by decide)), if_neg (fun z => absurd z.2.2.1 (by decide)), if_neg (fun z => k17 z.1), if_neg (fun z => absurd z.2.2.1 (by decide))]
        · have hr := q.1
          rw [zwj (a := r) (by omega) (by omega), if_neg (by omega), zwp_some, zwj (a := r) (by omega) (by omega), qM_clause_72r (by omega), zwp_some]
          exact ⟨(x13.tr x4).tr x5.g, Or.inr (q.st hRc1)⟩
      · have hv01 : ¬ (v = 0 ∨ v = 1) := by omega
        rw [if_neg hv01, if_neg hv01] at hPI1 hRc1
        rw [if_pos (by omega)]
        have m3' : MX0 f L x n ((flat T ++ []) ++ []) 0 σ3 := by
          rw [List.append_nil, List.append_nil]; exact m3
        refine zwp_mono (qM_clause_72 hx hv h20 hPI1 m3' hS3 ⟨eh, fun z => absurd z hv2⟩) (fun r σ8 ⟨w1, w2⟩ => ⟨x13.tr w1, ?_⟩)
        rcases w2 with ⟨w2, p', a1, a2, a3, a4, a5, b1, b2, b3⟩ | w2
        · exact Or.inl ⟨w2, p', a1, a2, a3, a4, a5, by omega, hRc1.tr b2, b3⟩
        · exact Or.inr (w2.st hRc1)
    · rw [ifnn (by omega), zwp_some]
      refine ⟨XG.rf, Or.inr (ft 5 (by omega) ?_)⟩
      rw [if_neg hk21, if_pos k18, if_neg hT]
  · rw [if_neg k18, ifnn rfl, zwp_some]
    refine ⟨XG.rf, Or.inr (ft 1 (by omega) ?_)⟩
    unfold tSort
    rw [if_neg hk21, if_neg k18]
def ZT (f : Nat → Int) (L x : Nat) (σ0 : Zm) (r : Int) (σ' : Zm) : Prop := XG x σ0 σ' ∧ ((r = 0 ∧ ∃ p' so' pr' cm' W' T', Rc f L S0 (p', (4, so', pr', cm'), W', [], [], T', (0, -1)) ∧ PI L (p', (4, so', pr', cm'), W', [], [], T', (0, -1)) ∧ MX0 f L x p' (flat T') 0 σ' ∧ HS σ' x T') ∨ FTx f L S0 r σ')
theorem pM_readText_43 {f : Nat → Int} {L x : Nat} (hx : x < 6) (σ0 : Zm) : ∀ (dd m p : Nat) (so pr cm : Int) (W : List Int) (T : List Cl) (σ : Zm), dd < m → L < p + dd → PI L (p, (0, so, pr, cm), W, [], [], T, (0, -1)) → Rc f L S0 (p, (0, so, pr, cm), W, [], [], T, (0, -1)) → XG x σ0 σ → MX0 f L x p (flat T) 0 σ → HS σ x T → zwp (fM_readText_43 m σ) (fun r σ' => ZT f L x σ0 r σ')
  | 0, m, p, so, pr, cm, W, T, σ, _, h, hPI, _, _, _, _ => by
    have := hPI.1
    omega
  | dd + 1, m + 1, p, so, pr, cm, W, T, σ, hm, hd, hPI, hRc, hXG, hM, hS => by
    rw [fM_readText_43, zwp_let, zwp_let]
    have hKK := MX_KK hM
    by_cases k21 : tk f L (ts f L p) = 21
    · rw [if_pos ((KK_en hKK).2 k21), zwp_some]
      have epg : pstep f L (p, (0, so, pr, cm), W, [], [], T, (0, -1)) = (tnx f L (ts f L p), (4, so, pr, cm), W, [], [], T, (0, -1)) := by
        rw [pstep_go (by omega)]
        unfold ptk tSort
        rw [if_pos rfl, if_pos k21]
      have hPI3 := (PI_step (f := f) _ hPI (fun z => by rcases z with z | z; exact z rfl; omega)).1
      rw [epg] at hPI3
      have hn : tnx f L (ts f L p) = ts f L p := by
        unfold tnx
        rw [if_pos]
        by_cases c : L ≤ ts f L p
        · exact c
        · have := (tk_s (f := f) (L := L) (s := ts f L p) (by omega)).1
          omega
      refine ⟨hXG, Or.inl ⟨rfl, tnx f L (ts f L p), so, pr, cm, W, T, hRc.tr (Rc.st (by rw [epg]; exact Rc.rf)), hPI3, ?_, hS⟩⟩
      have hLs : L ≤ ts f L p := by
        by_cases c : L ≤ ts f L p
        · exact c
        · have := (tk_s (f := f) (L := L) (s := ts f L p) (by omega)).1
          omega
      have hts2 : ts f L (ts f L p) = ts f L p := by
        show rn isw f (L - ts f L p) (ts f L p) = ts f L p
        rw [show L - ts f L p = 0 by omega]
        rfl
      rw [hn]
      obtain ⟨a1, a2, a3⟩ := hM
      exact ⟨a1, by rw [hts2]; exact a2, a3⟩
    · rw [if_neg (fun z => k21 ((KK_en hKK).1 z)), zwp_bi]
      refine zwp_mono (qM_clause hx hPI hM hS k21) (fun r σ1 ⟨x1, q⟩ => ?_)
      rcases q with ⟨q0, p', so', pr', cm', W', T', hlt, hRc', hPI', m1, hS1⟩ | q
      · subst q0
        rw [show zw 0 = 0 from rfl, if_pos rfl]
        exact pM_readText_43 hx σ0 dd m p' so' pr' cm' W' T' σ1 (by omega) (by omega) hPI' (hRc.tr hRc') (hXG.tr x1) m1 hS1
      · have hr := q.1
        rw [zwj (a := r) (by omega) (by omega), if_neg (by omega), zwp_some]
        exact ⟨hXG.tr x1, Or.inr (q.st hRc)⟩
theorem qM_readText {f : Nat → Int} {L x : Nat} (hx : x < 6) (σ : Zm) (ht : mtape f L σ) (h1 : zrd σ 274 1 = (x : Int)) : zwp (fM_readText σ) (fun r σ' => ZT f L x σ r σ') := by
  have hL := ht.2.1
  unfold fM_readText
  rw [zck_ok (by decide), zwp_let, h1]
  have s0 : ∀ (σ σ' : Zm) (k : Nat), (zfo (oO 273) σ σ' ∧ ∀ j, j ≠ k → zrd σ' 273 j = zrd σ 273 j) → (k = 12 ∨ dyn k) → XG x σ σ' := by
    intro σ σ' k h hk
    exact ⟨h.1.mono (fun q z => Or.inl z), fun j a b c => h.2 j (fun z => by subst z; rcases hk with z | z; exact b z; exact a z), fun j _ => h.1.rd (oO_ne (by omega)) j⟩
  refine zwp_st (fun σ1 f1 e1 => ?_)
  have e12 : zrd σ1 273 12 = ((900 * x : Nat) : Int) := by rw [e1, if_pos rfl, zwj (by omega) (by omega)]; omega
  rw [zwp_let, e12, zckj (by omega) (by omega), Int.toNat_natCast]
  refine zwp_st (fun σ2 f2 e2 => ?_)
  refine zwp_st (fun σ3 f3 e3 => ?_)
  refine zwp_st (fun σ4 f4 e4 => ?_)
  refine zwp_st (fun σ5 f5 e5 => ?_)
  have x1 : XG x σ σ1 := s0 σ σ1 12 ⟨f1, fun j hj => by rw [e1, if_neg hj]⟩ (Or.inl rfl)
  have x2 : XG x σ1 σ2 := ⟨f2.mono (fun q z => Or.inr (Or.inl z)), fun k _ _ _ => f2.rd (oO_ne (by omega)) k, fun i hi => by rw [e2, if_neg (by omega)]⟩
  have x3 : XG x σ2 σ3 := s0 σ2 σ3 14 ⟨f3, fun j hj => by rw [e3, if_neg hj]⟩ (Or.inr (by unfold dyn; omega))
  have x4 : XG x σ3 σ4 := s0 σ3 σ4 18 ⟨f4, fun j hj => by rw [e4, if_neg hj]⟩ (Or.inr (by unfold dyn; omega))
  have x5 : XG x σ4 σ5 := s0 σ4 σ5 7 ⟨f5, fun j hj => by rw [e5, if_neg hj]⟩ (Or.inr (by unfold dyn; omega))
  have x15 := (((x1.tr x2).tr x3).tr x4).tr x5
  have t5 : mtape f L σ5 := ⟨by rw [x15.2.1 4 (by unfold dyn; omega) (by omega) (by omega)]; exact ht.1, hL, fun j hj => by rw [x15.1.rd (by unfold mD; omega)]; exact ht.2.2 j hj⟩
  have e27 : ∀ j, zrd σ2 273 j = zrd σ1 273 j := fun j => f2.rd (oO_ne (by omega)) j
  rw [zwp_bv]
  refine zwp_mono (qM_nextToken (p := 0) σ5 t5 (by rw [e5, if_pos rfl]; rfl) (by omega)) (fun _ σ6 ⟨r6, m6⟩ => ?_)
  have x6 : XG x σ5 σ6 := ⟨r6.1.mono (fun q z => Or.inl z), fun k a _ _ => r6.2 k (fun z => a (Or.inl z)), fun i _ => r6.1.rd (oO_ne (by omega)) i⟩
  refine pM_readText_43 hx σ (L + 1) 5000 0 0 0 0 [] [] σ6 (by omega) (by omega) PI_0 Rc.rf (x15.tr x6) ⟨mtape_TR t5 r6, m6, ?_, ?_, trivial, ?_⟩ ⟨trivial, ?_⟩
  · rw [r6.2 12 (by omega), e5, if_neg (by decide), e4, if_neg (by decide), e3, if_neg (by decide), e27]; exact e12
  · rw [r6.2 14 (by omega), e5, if_neg (by decide), e4, if_neg (by decide), e3, if_pos rfl]; rfl
  · rw [r6.2 18 (by omega), e5, if_neg (by decide), e4, if_pos rfl]; rfl
  · rw [r6.1.rd (oO_ne (by omega)), f5.rd (oO_ne (by omega)), f4.rd (oO_ne (by omega)), f3.rd (oO_ne (by omega)), e2, if_pos rfl]; rfl

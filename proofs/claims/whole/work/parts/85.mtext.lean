/-! MY OWN: conditions, clauses, the whole text, as the reference reads them -/
def nots (j : Nat) : List Int := List.replicate j 3
def b12 (B : List Int) : Prop := ∀ b ∈ B, b = 1 ∨ b = 2
theorem b12_bB {B : List Int} (h : b12 B) : bB B := fun b hb => by have := h b hb; omega
theorem b12_aro : ∀ {B : List Int}, b12 B → aro B = 0
  | [], _ => rfl
  | b :: B, h => by
    have hb := h b (List.mem_cons_self ..)
    show (if b = 0 ∨ b = 3 ∨ b = 14 then aro B + 1 else aro B) = 0
    rw [if_neg (by omega)]
    exact b12_aro (fun y hy => h y (List.mem_cons_of_mem _ hy))
theorem b12_rel {c : List Int} : ∀ {B : List Int}, b12 B → rel 3 B c = (B, c)
  | [], _ => rfl
  | b :: B, h => by
    have hb := h b (List.mem_cons_self ..)
    have hz := zLvI (a := b) (by omega)
    unfold rel
    rw [if_neg (by omega)]
theorem nots_aro : ∀ (j : Nat) (B : List Int), b12 B → aro (nots j ++ B) = j
  | 0, B, h => b12_aro h
  | j + 1, B, h => by
    have ih := nots_aro j B h
    show (if (3 : Int) = 0 ∨ (3 : Int) = 3 ∨ (3 : Int) = 14 then aro (nots j ++ B) + 1 else aro (nots j ++ B)) = j + 1
    rw [if_pos (by decide), ih]
theorem nots_bB {j : Nat} {B : List Int} (h : b12 B) : bB (nots j ++ B) := by
  intro b hb
  rcases List.mem_append.1 hb with hb | hb
  · have := List.eq_of_mem_replicate hb
    omega
  · have := h b hb
    omega
theorem nots_rel : ∀ (j : Nat) (B c : List Int), b12 B → rel 3 (nots j ++ B) c = (B, c ++ List.replicate j 2003)
  | 0, B, c, h => by
    show rel 3 B c = (B, c ++ [])
    rw [List.append_nil]
    exact b12_rel h
  | j + 1, B, c, h => by
    have ih := nots_rel j B (c ++ [2003]) h
    show (if (3 : Int) ≤ zLv (3 : Int).toNat then rel 3 (nots j ++ B) (c ++ [2000 + 3]) else _) = _
    rw [if_pos (by decide)]
    have e : c ++ List.replicate (j + 1) (2003 : Int) = (c ++ [2003]) ++ List.replicate j 2003 := by
      rw [List.append_assoc]; rfl
    rw [e]
    exact ih
theorem pM_asks_2 {f : Nat → Int} {L x : Nat} (hx : x < 6) {B : List Int} (hB : b12 B) {so pl : Int} {c1 c : List Int} {T : List Cl} (σ0 : Zm) (S0 : PS) (p0 : Nat) (Q : Int → Zm → Prop) (K : Int → Zm → Zr)
    (hK : ∀ σ' p' j', XF x σ0 σ' → p0 ≤ p' → Rc f L S0 (p', (1, so, 0, 0), nots j' ++ B, c1, c, T, (0, pl)) → PI L (p', (1, so, 0, 0), nots j' ++ B, c1, c, T, (0, pl)) → MX0 f L x p' ((flat T ++ c1) ++ c) j' σ' → j' ≤ 8 → tk f L (ts f L p') ≠ 3 → zwp (K (j' : Int) σ') Q)
    (hQ : ∀ r σ', XF x σ0 σ' → FTx f L S0 r σ' → Q r σ') : ∀ (dd m p j : Nat) (σ : Zm), dd < m → L < p + dd → p0 ≤ p → PI L (p, (1, so, 0, 0), nots j ++ B, c1, c, T, (0, pl)) → Rc f L S0 (p, (1, so, 0, 0), nots j ++ B, c1, c, T, (0, pl)) → XF x σ0 σ → MX0 f L x p ((flat T ++ c1) ++ c) j σ → j ≤ 8 → zwp (fM_asks_2 m (j : Int) σ K) Q
  | 0, m, p, j, σ, _, h, _, hPI, _, _, _, _ => by
    have := hPI.1
    omega
  | dd + 1, m + 1, p, j, σ, hm, hd, hp0, hPI, hRc, hXF, hM, hj => by
    rw [fM_asks_2]
    rw [zwp_let]
    have hKK := MX_KK hM
    rw [wk_not, word_eq hKK (i := 7) (w := 7237492) (by decide) (by decide), show wkd ((7 : Nat) : Int) = 3 by rfl]
    by_cases k3 : tk f L (ts f L p) = 3
    · rw [if_pos ⟨k3, fun z => by omega⟩, if_neg (by decide), zwp_let, hM.2.2.2.2.2]
      have har := nots_aro j B hB
      have epg : pstep f L (p, (1, so, 0, 0), nots j ++ B, c1, c, T, (0, pl)) = nest (ts f L p : Int) (tnx f L (ts f L p)) 3 1 1 so 0 0 (nots j ++ B) c1 c T pl := by
        rw [pstep_go (by omega)]
        unfold ptk tOne
        rw [if_neg (by omega), if_neg (by omega), if_neg (by omega), if_neg (by omega), if_pos ⟨k3, rfl⟩]
      unfold nest at epg
      rw [har] at epg
      have adv := tnx_s (f := f) (tk_lt (f := f) (L := L) (s := ts f L p) (by omega))
      have hts := ts_bd (f := f) hPI.1
      by_cases c8 : j < 8
      · rw [if_pos (by omega), zwp_let]
        rw [if_pos c8] at epg
        refine MX0_18 (d' := j + 1) hM (by rw [zwj (by omega) (by omega)]; omega) (fun σ1 x1 m1 k1 q1 => ?_)
        rw [zwp_bv]
        refine zwp_mono (M_next m1 (by omega)) (fun _ σ2 ⟨y1, y2, y3⟩ => ?_)
        rw [show zw ((j : Int) + 1) = ((j + 1 : Nat) : Int) by rw [zwj (by omega) (by omega)]; omega]
        have hPI' := (PI_step (f := f) _ hPI (fun z => by rcases z with z | z; exact z rfl; omega)).1
        rw [epg] at hPI'
        exact pM_asks_2 hx hB σ0 S0 p0 Q K hK hQ dd m (tnx f L (ts f L p)) (j + 1) σ2 (by omega) (by omega) (by omega) hPI' (hRc.tr (Rc.st (by rw [epg]; exact Rc.rf))) ((hXF.tr x1).tr y1) y2 (by omega)
      · rw [ifnn (by omega), zwp_some]
        rw [if_neg c8] at epg
        refine hQ 3 σ hXF (FTx.st (S' := (p, (1, so, 0, 0), nots j ++ B, c1, c, T, (0, pl))) ⟨by omega, _, Rc.st Rc.rf, ?_⟩ hRc)
        rw [epg, hM.2.1.1]
    · rw [if_neg (fun z => k3 z.1), if_pos rfl]
      exact hK σ p j hXF hp0 hRc hPI hM hj k3
theorem qM_compareOf {k v : Int} {σ : Zm} (hK : KK k v σ) : fM_compareOf σ = some (if 4 ≤ k ∧ k ≤ 9 then k + 6 else -1, σ) := by
  unfold fM_compareOf
  simp only [zlet]
  by_cases k4 : k = 4
  · rw [ifnn ((KK_lt hK).2 k4), if_pos (by omega), k4]; rfl
  · rw [if_pos (fun z => k4 ((KK_lt hK).1 z))]
    by_cases k5 : k = 5
    · rw [ifnn ((KK_le hK).2 k5), if_pos (by omega), k5]; rfl
    · rw [if_pos (fun z => k5 ((KK_le hK).1 z))]
      by_cases k6 : k = 6
      · rw [ifnn ((KK_gt hK).2 k6), if_pos (by omega), k6]; rfl
      · rw [if_pos (fun z => k6 ((KK_gt hK).1 z))]
        by_cases k7 : k = 7
        · rw [ifnn ((KK_ge hK).2 k7), if_pos (by omega), k7]; rfl
        · rw [if_pos (fun z => k7 ((KK_ge hK).1 z))]
          by_cases k8 : k = 8
          · rw [ifnn ((KK_eq hK).2 k8), if_pos (by omega), k8]; rfl
          · rw [if_pos (fun z => k8 ((KK_eq hK).1 z))]
            by_cases k9 : k = 9
            · rw [ifnn ((KK_ne hK).2 k9), if_pos (by omega), k9]; rfl
            · rw [if_pos (fun z => k9 ((KK_ne hK).1 z)), if_neg (by omega)]
theorem pM_asks_105 {f : Nat → Int} {L x p d : Nat} (hx : x < 6) {X : List Int} (j : Nat) : ∀ (e m i : Nat) (c : List Int) (σ : Zm), e < m → i + e = j → j ≤ 300 → (X ++ c).length + e ≤ 300 → MX0 f L x p (X ++ c) d σ → zwp (fM_asks_105 m (j : Int) (i : Int) σ) (fun r σ' => r = 0 ∧ XF x σ σ' ∧ MX0 f L x p (X ++ (c ++ List.replicate e 2003)) d σ')
  | 0, m + 1, i, c, σ, _, hi, _, _, h => by
    rw [fM_asks_105, zwp_let, if_pos (by omega), zwp_some]
    refine ⟨rfl, XF.rf, ?_⟩
    show MX0 f L x p (X ++ (c ++ [])) d σ
    rw [List.append_nil]; exact h
  | e + 1, m + 1, i, c, σ, hm, hi, hj, hl, h => by
    rw [fM_asks_105, zwp_let, if_neg (by omega)]
    obtain ⟨σ1, g1, g2, g3, g4, g5⟩ := M_emit (c := 2003) (a := 20) (b := 0) hx h (by omega) rfl (fun z => by omega) rfl rfl
    rw [zbv_eq g1, show zw ((i : Int) + 1) = ((i + 1 : Nat) : Int) by rw [zwj (by omega) (by omega)]; omega]
    rw [List.append_assoc] at g3
    refine zwp_mono (pM_asks_105 hx j e m (i + 1) (c ++ [2003]) σ1 (by omega) (by omega) hj (by simp only [List.length_append, List.length_cons, List.length_nil] at hl ⊢; omega) g3) (fun r σ2 ⟨q1, q2, q3⟩ => ⟨q1, g2.tr q2, ?_⟩)
    have e' : c ++ List.replicate (e + 1) (2003 : Int) = (c ++ [2003]) ++ List.replicate e 2003 := by
      rw [List.append_assoc]; rfl
    rw [e']
    exact q3
/-- one comparison -/
theorem qM_asks {f : Nat → Int} {L x p : Nat} (hx : x < 6) {B : List Int} (hB : b12 B) {so pl : Int} {c1 c : List Int} {T : List Cl} {σ : Zm} (hso : 0 ≤ so ∧ so ≤ 3) (h20 : zrd σ 273 20 = so + 1) (hPI : PI L (p, (1, so, 0, 0), B, c1, c, T, (0, pl))) (h : MX0 f L x p ((flat T ++ c1) ++ c) 0 σ) : zwp (fM_asks σ) (fun r σ' => XF x σ σ' ∧ ((r = 0 ∧ ∃ p' W' c' c2, p < p' ∧ Rc f L (p, (1, so, 0, 0), B, c1, c, T, (0, pl)) (p', (3, so, 0, 1), W', c1, c', T, (0, pl)) ∧ PI L (p', (3, so, 0, 1), W', c1, c', T, (0, pl)) ∧ rel 3 W' c' = (B, c2) ∧ MX0 f L x p' ((flat T ++ c1) ++ c2) 0 σ' ∧ ¬ (10 ≤ tk f L (ts f L p') ∧ tk f L (ts f L p') ≤ 13) ∧ par W' = 0) ∨ FTx f L (p, (1, so, 0, 0), B, c1, c, T, (0, pl)) r σ')) := by
  have hL := h.1.2.1
  unfold fM_asks
  refine pM_asks_2 hx hB σ (p, (1, so, 0, 0), B, c1, c, T, (0, pl)) p _ _ ?_ (fun r σ' a b => ⟨a, Or.inr b⟩) (L + 1) 5000 p 0 σ (by omega) (by omega) (Nat.le_refl _) hPI Rc.rf XF.rf h (by omega)
  intro σ1 p1 j x1 hp1 hRc1 hPI1 m1 hj8 hn3
  have harj := nots_aro j B hB
  have h20a : zrd σ1 273 20 = so + 1 := by rw [x1.2.1 20 (by unfold dyn; omega)]; exact h20
  rw [zwp_bi]
  have hs1 := qM_summed hx (nots_bB (j := j) hB) (du := 1) hso h20a hPI1 (Or.inr ⟨rfl, hn3⟩) (by omega) (by rw [harj]; exact m1)
  refine zwp_mono hs1 (fun r σ2 ⟨x2, q⟩ => ?_)
  rcases q with ⟨q0, p2, W2, c2, c3, hp2, hRc2, hPI2, hr5, m2, hna, hpar⟩ | q
  · subst q0
    rw [show zw 0 = 0 from rfl, if_pos rfl]
    rw [harj] at m2
    have hKK := MX_KK m2
    have hk0 : -1 ≤ (if 4 ≤ tk f L (ts f L p2) ∧ tk f L (ts f L p2) ≤ 9 then tk f L (ts f L p2) + 6 else -1) ∧ (if 4 ≤ tk f L (ts f L p2) ∧ tk f L (ts f L p2) ≤ 9 then tk f L (ts f L p2) + 6 else -1) ≤ 15 := by split <;> omega
    rw [zbi_eq (qM_compareOf hKK), zwj (by omega) (by omega)]
    by_cases ck : 4 ≤ tk f L (ts f L p2) ∧ tk f L (ts f L p2) ≤ 9
    · rw [if_pos ck, if_pos (by omega), zwp_bv]
      refine zwp_mono (M_next m2 (by omega)) (fun _ σ3 ⟨x3, m3, _⟩ => ?_)
      have adv := tnx_s (f := f) (tk_lt (f := f) (L := L) (s := ts f L p2) (by omega))
      have hts2 := ts_bd (f := f) hPI2.1
      have epg : pstep f L (p2, (3, so, 0, 0), W2, c1, c2, T, (0, pl)) = (tnx f L (ts f L p2), (2, so, 0, 1), tk f L (ts f L p2) :: (nots j ++ B), c1, c3, T, (0, pl)) := by
        rw [pstep_go (by omega)]
        unfold ptk tBeh
        rw [if_neg (by omega), if_pos rfl, if_neg (by omega), if_neg (by omega), if_pos ⟨ck, hpar, rfl, rfl⟩, hr5]
      have hPI3 := (PI_step (f := f) _ hPI2 (fun z => by rcases z with z | z; exact z rfl; omega)).1
      rw [epg] at hPI3
      generalize hk : tk f L (ts f L p2) = k at *
      generalize hn : tnx f L (ts f L p2) = n at *
      have hRc3 : Rc f L (p, (1, so, 0, 0), B, c1, c, T, (0, pl)) (n, (2, so, 0, 1), k :: (nots j ++ B), c1, c3, T, (0, pl)) := (hRc1.tr hRc2).tr (Rc.st (by rw [epg]; exact Rc.rf))
      have h20c : zrd σ3 273 20 = so + 1 := by rw [x3.2.1 20 (by unfold dyn; omega), x2.2.1 20 (by unfold dyn; omega)]; exact h20a
      have hBk : bB (k :: (nots j ++ B)) := by
        intro b hb
        rcases List.mem_cons.1 hb with rfl | hb
        · omega
        · exact nots_bB hB b hb
      have hark : aro (k :: (nots j ++ B)) = j := by rw [aro_o (by omega)]; exact harj
      rw [zwp_bi]
      have hs2 := qM_summed hx hBk (du := 2) hso h20c hPI3 (Or.inl rfl) (by omega) (by rw [hark]; exact m3)
      refine zwp_mono hs2 (fun r σ4 ⟨x4, q⟩ => ?_)
      rcases q with ⟨q0, p4, W4, c4, c5, hp4, hRc4, hPI4, hr5b, m4, hnb, hparb⟩ | q
      · subst q0
        rw [show zw 0 = 0 from rfl, if_pos rfl]
        rw [hark] at m4
        have hsum := hPI4.2.2.1
        have hp4L := hPI4.1
        have hrl := rel_len 5 W4 c4
        rw [hr5b] at hrl
        simp only [List.length_cons, List.length_append, nots, List.length_replicate] at hrl
        obtain ⟨σ5, g1, g2, g3, g4, g5⟩ := M_emit (c := 2000 + k) (a := k + 6) (b := 0) hx m4 (by simp only [List.length_append]; omega) (by rw [eno_op (by omega), if_neg (by omega), if_neg (by omega), if_neg (by omega), if_pos (by omega)]) (fun z => by omega) (zwj (by omega) (by omega)) rfl
        rw [zbv_eq g1, zwp_let, g3.2.2.2.2.2]
        refine MX0_18 (d' := 0) g3 (by rw [show (j : Int) - j = 0 by omega]; rfl) (fun σ6 x6 m6 k6 r6 => ?_)
        rw [List.append_assoc] at m6
        refine zwp_mono (pM_asks_105 hx j j 5000 0 (c5 ++ [2000 + k]) σ6 (by omega) (by omega) (by omega) (by simp only [List.length_append, List.length_cons, List.length_nil]; omega) m6) (fun r σ7 ⟨w1, w2, w3⟩ => ?_)
        refine ⟨(((((x1.tr x2).tr x3).tr x4).tr g2).tr x6).tr w2, Or.inl ⟨w1, p4, W4, c4, (c5 ++ [2000 + k]) ++ List.replicate j 2003, by omega, hRc3.tr hRc4, hPI4, ?_, w3, hnb, hparb⟩⟩
        rw [rel_lo' (show (3 : Int) ≤ 5 by omega) hr5b]
        have hzk := zLvI (a := k) (by omega)
        have er : rel 3 (k :: (nots j ++ B)) c5 = if 3 ≤ zLv k.toNat then rel 3 (nots j ++ B) (c5 ++ [2000 + k]) else (k :: (nots j ++ B), c5) := rfl
        rw [er, if_pos (by omega), nots_rel j B _ hB]
      · have hr := q.1
        rw [zwj (a := r) (by omega) (by omega), if_neg (by omega), zwp_some]
        exact ⟨((x1.tr x2).tr x3).tr x4, Or.inr (q.st hRc3)⟩
    · rw [if_neg ck, if_neg (by decide), zwp_some]
      refine ⟨x1.tr x2, Or.inr ((FT_now (by omega) (by omega) ?_ m2.2.1.1).st (hRc1.tr hRc2))⟩
      unfold ptk tBeh
      rw [if_neg (by omega), if_pos rfl, if_neg hna, if_neg (fun z => z.2 hpar), if_neg (fun z => ck z.1), if_neg (fun z => z.2.2.2 rfl), if_neg (fun z => z.2.2 rfl), if_neg (fun z => z.2.2.2 rfl)]
  · have hr := q.1
    rw [zwj (a := r) (by omega) (by omega), if_neg (by omega), zwp_some]
    exact ⟨x1.tr x2, Or.inr (q.st hRc1)⟩
/-- what waits between comparisons -/
def bl (x1 x2 : Int) : List Int := if x1 = 0 then (if x2 = 0 then [] else [1]) else 2 :: (if x2 = 0 then [] else [1])
theorem bl_12 (x1 x2 : Int) : b12 (bl x1 x2) := by
  intro b hb
  unfold bl at hb
  split at hb
  · split at hb
    · exact absurd hb (by simp)
    · simp at hb; omega
  · split at hb
    · simp at hb; omega
    · simp at hb; omega
theorem bl_2 (x1 x2 : Int) (c : List Int) : rel 2 (bl x1 x2) c = (bl 0 x2, if x1 = 0 then c else c ++ [2002]) := by
  unfold bl
  by_cases c1 : x1 = 0
  · rw [if_pos c1, if_pos c1, if_pos rfl]
    by_cases c2 : x2 = 0
    · rw [if_pos c2]; rfl
    · rw [if_neg c2]
      show (if (2 : Int) ≤ zLv (1 : Int).toNat then _ else _) = _
      rw [if_neg (by decide)]
  · rw [if_neg c1, if_neg c1, if_pos rfl]
    show (if (2 : Int) ≤ zLv (2 : Int).toNat then rel 2 _ (c ++ [2000 + 2]) else _) = _
    rw [if_pos (by decide)]
    by_cases c2 : x2 = 0
    · rw [if_pos c2]; rfl
    · rw [if_neg c2]
      show (if (2 : Int) ≤ zLv (1 : Int).toNat then _ else _) = _
      rw [if_neg (by decide)]; rfl
theorem bl_1 (x2 : Int) (c : List Int) : rel 1 (bl 0 x2) c = ([], if x2 = 0 then c else c ++ [2001]) := by
  unfold bl
  rw [if_pos rfl]
  by_cases c2 : x2 = 0
  · rw [if_pos c2, if_pos c2]; rfl
  · rw [if_neg c2, if_neg c2]
    show (if (1 : Int) ≤ zLv (1 : Int).toNat then rel 1 [] (c ++ [2000 + 1]) else _) = _
    rw [if_pos (by decide)]; rfl
theorem KK_or {k v : Int} {σ : Zm} (h : KK k v σ) : (zrd σ 273 9 = 2 ∧ zlc (zrl σ 273 11) 28530 = 0) ↔ k = 1 := by
  rcases h with ⟨u, h1, h2, h3, h4, h5⟩ | ⟨h1, h2, h3, h4⟩ | ⟨h1, h2, h3⟩
  · have hz := zlc_w (v := u) (i := 5) (w := 28530) h1 (by decide) (by decide)
    have hc := wkd_c _ (wnm_bd u)
    rw [h3, hz]
    constructor
    · rintro ⟨_, z⟩
      omega
    · intro z
      exact ⟨h2, by omega⟩
  · constructor
    · rintro ⟨z, _⟩; omega
    · intro z; omega
  · constructor
    · rintro ⟨z, _⟩; exact absurd z h2
    · intro z; exact absurd z (KSg_no h3).1
theorem pM_either_6 {f : Nat → Int} {L x : Nat} (hx : x < 6) {so pl : Int} {c1 : List Int} {T : List Cl} (hso : 0 ≤ so ∧ so ≤ 3) (σ0 : Zm) (h20 : zrd σ0 273 20 = so + 1) (S0 : PS) (p0 : Nat) : ∀ (dd m p : Nat) (x1 x2 : Int) (c : List Int) (σ : Zm), dd < m → L < p + dd → p0 ≤ p → PI L (p, (1, so, 0, 0), bl x1 x2, c1, c, T, (0, pl)) → Rc f L S0 (p, (1, so, 0, 0), bl x1 x2, c1, c, T, (0, pl)) → XF x σ0 σ → MX0 f L x p ((flat T ++ c1) ++ c) 0 σ → zwp (fM_either_6 m x1 x2 1 σ) (fun r σ' => XF x σ0 σ' ∧ ((r = 0 ∧ ∃ p' W' c' c2, p0 < p' ∧ Rc f L S0 (p', (3, so, 0, 1), W', c1, c', T, (0, pl)) ∧ PI L (p', (3, so, 0, 1), W', c1, c', T, (0, pl)) ∧ rel 1 W' c' = ([], c2) ∧ MX0 f L x p' ((flat T ++ c1) ++ c2) 0 σ' ∧ ¬ (10 ≤ tk f L (ts f L p') ∧ tk f L (ts f L p') ≤ 13) ∧ par W' = 0 ∧ tk f L (ts f L p') ≠ 1 ∧ tk f L (ts f L p') ≠ 2) ∨ FTx f L S0 r σ'))
  | 0, m, p, x1, x2, c, σ, _, h, _, hPI, _, _, _ => by
    have := hPI.1
    omega
  | dd + 1, m + 1, p, x1, x2, c, σ, hm, hd, hp0, hPI, hRc, hXF, hM => by
    have hL := hM.1.2.1
    have h20' : zrd σ 273 20 = so + 1 := by rw [hXF.2.1 20 (by unfold dyn; omega)]; exact h20
    rw [fM_either_6, zwp_let, if_neg (by decide), zwp_bi]
    refine zwp_mono (qM_asks hx (bl_12 x1 x2) hso h20' hPI hM) (fun r σ1 ⟨y1, q⟩ => ?_)
    rcases q with ⟨q0, p2, W2, c3, c5, hp2, hRc2, hPI2, hr3, m1, hna, hpar⟩ | q
    · subst q0
      rw [show zw 0 = 0 from rfl, if_pos rfl]
      have hRcS := hRc.tr hRc2
      have hsum := hPI2.2.2.1
      have hp2L := hPI2.1
      have hrl : (bl x1 x2).length + c5.length = W2.length + c3.length := by
        have := rel_len 3 W2 c3
        rw [hr3] at this
        exact this
      have hr2 : rel 2 W2 c3 = (bl 0 x2, if x1 = 0 then c5 else c5 ++ [2002]) := by
        rw [rel_lo' (show (2 : Int) ≤ 3 by omega) hr3, bl_2]
      have hblx : (bl x1 x2).length = (if x1 = 0 then 0 else 1) + (if x2 = 0 then 0 else 1) := by
        unfold bl
        split
        · split <;> rfl
        · split <;> rfl
      have hc6 : (if x1 = 0 then c5 else c5 ++ [(2002 : Int)]).length = c5.length + (if x1 = 0 then 0 else 1) := by
        split
        · rfl
        · simp
      generalize hc6' : (if x1 = 0 then c5 else c5 ++ [(2002 : Int)]) = c6 at *
      have hr1 : rel 1 W2 c3 = ([], if x2 = 0 then c6 else c6 ++ [2001]) := by
        rw [rel_lo' (show (1 : Int) ≤ 2 by omega) hr2, bl_1]
      have hkk : ∀ σe, MX0 f L x p2 ((flat T ++ c1) ++ c6) 0 σe → KK (tk f L (ts f L p2)) (tvl f L (ts f L p2)) σe := fun σe h => MX_KK h
      have hts2 := ts_bd (f := f) hp2L
      have nf : ¬ fin (p2, (3, so, 0, 1), W2, c1, c3, T, (0, pl)) := fun z => by rcases z with z | z; exact z rfl; omega
      have hPI3 := (PI_step (f := f) _ hPI2 nf).1
      -- the next token is and, or, or neither
      have mid : ∀ σe, XF x σ1 σe → MX0 f L x p2 ((flat T ++ c1) ++ c6) 0 σe → zwp (fM_either_35 (fun (x1 : Int) (x2 : Int) (x3 : Int) (σ : Zm) => fM_either_6 m x1 x2 x3 σ) x2 σe) (fun r σ' => XF x σ0 σ' ∧ ((r = 0 ∧ ∃ p' W' c' c2, p0 < p' ∧ Rc f L S0 (p', (3, so, 0, 1), W', c1, c', T, (0, pl)) ∧ PI L (p', (3, so, 0, 1), W', c1, c', T, (0, pl)) ∧ rel 1 W' c' = ([], c2) ∧ MX0 f L x p' ((flat T ++ c1) ++ c2) 0 σ' ∧ ¬ (10 ≤ tk f L (ts f L p') ∧ tk f L (ts f L p') ≤ 13) ∧ par W' = 0 ∧ tk f L (ts f L p') ≠ 1 ∧ tk f L (ts f L p') ≠ 2) ∨ FTx f L S0 r σ')) := by
        intro σe xe me
        have hKK := hkk σe me
        have hor := KK_or hKK
        have xe0 := (hXF.tr y1).tr xe
        -- the pending or is put down
        have down : ∀ (F : Zm → Zr) (Q : Int → Zm → Prop), (∀ σg, XF x σ0 σg → MX0 f L x p2 ((flat T ++ c1) ++ (if x2 = 0 then c6 else c6 ++ [2001])) 0 σg → zwp (F σg) Q) → zwp (if x2 = 0 then F σe else zbv (fM_emit σe 22 0) fun σ11 => F σ11) Q := by
          intro F Q hF
          by_cases c2 : x2 = 0
          · rw [if_pos c2]
            refine hF σe xe0 ?_
            rw [if_pos c2]; exact me
          · rw [if_neg c2]
            rw [if_neg c2] at hblx
            obtain ⟨σ5, g1, g2, g3, g4, g5⟩ := M_emit (c := 2001) (a := 22) (b := 0) hx me (by simp only [List.length_append]; omega) rfl (fun z => by omega) rfl rfl
            rw [zbv_eq g1]
            refine hF σ5 (xe0.tr g2) ?_
            rw [if_neg c2, ← List.append_assoc]; exact g3
        unfold fM_either_35
        rw [wk_and, word_eq hKK (i := 6) (w := 6385252) (by decide) (by decide), show wkd ((6 : Nat) : Int) = 2 by rfl]
        by_cases k2 : tk f L (ts f L p2) = 2
        · rw [if_pos ⟨k2, fun z => by omega⟩, zwp_let]
          have e75 : ∀ x5 : Int, fM_either_75 (fun (x1 : Int) (x2 : Int) (x3 : Int) (σ : Zm) => fM_either_6 m x1 x2 x3 σ) 1 x2 x5 σe = zbv (fM_nextToken σe) fun σ8 => fM_either_6 m 1 x2 1 σ8 := by
            intro x5
            unfold fM_either_75 fM_either_93
            rw [if_pos (by decide), if_pos (by decide), if_neg (by decide)]
          have go : zwp (zbv (fM_nextToken σe) fun σ8 => fM_either_6 m 1 x2 1 σ8) (fun r σ' => XF x σ0 σ' ∧ ((r = 0 ∧ ∃ p' W' c' c2, p0 < p' ∧ Rc f L S0 (p', (3, so, 0, 1), W', c1, c', T, (0, pl)) ∧ PI L (p', (3, so, 0, 1), W', c1, c', T, (0, pl)) ∧ rel 1 W' c' = ([], c2) ∧ MX0 f L x p' ((flat T ++ c1) ++ c2) 0 σ' ∧ ¬ (10 ≤ tk f L (ts f L p') ∧ tk f L (ts f L p') ≤ 13) ∧ par W' = 0 ∧ tk f L (ts f L p') ≠ 1 ∧ tk f L (ts f L p') ≠ 2) ∨ FTx f L S0 r σ')) := by
            have epg : pstep f L (p2, (3, so, 0, 1), W2, c1, c3, T, (0, pl)) = (tnx f L (ts f L p2), (1, so, 0, 0), bl 1 x2, c1, c6, T, (0, pl)) := by
              rw [pstep_go (by omega)]
              unfold ptk tBeh
              rw [if_neg (by omega), if_pos rfl, if_neg hna, if_neg (fun z => z.2 hpar), if_neg (fun z => absurd z.2.2.2 (by decide)), if_pos ⟨Or.inr k2, hpar, rfl, by decide⟩, k2, hr2]
              rfl
            rw [epg] at hPI3
            have adv := tnx_s (f := f) (tk_lt (f := f) (L := L) (s := ts f L p2) (by omega))
            rw [zwp_bv]
            refine zwp_mono (M_next me (by omega)) (fun _ σ2 ⟨z1, z2, _⟩ => ?_)
            exact pM_either_6 hx hso σ0 h20 S0 p0 dd m (tnx f L (ts f L p2)) 1 x2 c6 σ2 (by omega) (by omega) (by omega) hPI3 (hRcS.tr (Rc.st (by rw [epg]; exact Rc.rf))) (xe0.tr z1) z2
          by_cases k9 : zrd σe 273 9 = 2
          · rw [ifnn k9, zwp_let]
            by_cases kz : zlc (zrl σe 273 11) 28530 = 0
            · rw [ifnn kz, e75]; exact go
            · rw [if_pos kz]
              unfold fM_either_72
              rw [e75]; exact go
          · rw [if_pos k9]
            unfold fM_either_72
            rw [e75]; exact go
        · rw [if_neg (fun z => k2 z.1), zwp_let]
          by_cases k1 : tk f L (ts f L p2) = 1
          · obtain ⟨o1, o2⟩ := hor.2 k1
            rw [ifnn o1, zwp_let, ifnn o2]
            unfold fM_either_75
            rw [ifnn rfl]
            have dw := down (fun σ11 => fM_either_90 (fun (x1 : Int) (x2 : Int) (x3 : Int) (σ : Zm) => fM_either_6 m x1 x2 x3 σ) 0 1 σ11) (fun r σ' => XF x σ0 σ' ∧ ((r = 0 ∧ ∃ p' W' c' c2, p0 < p' ∧ Rc f L S0 (p', (3, so, 0, 1), W', c1, c', T, (0, pl)) ∧ PI L (p', (3, so, 0, 1), W', c1, c', T, (0, pl)) ∧ rel 1 W' c' = ([], c2) ∧ MX0 f L x p' ((flat T ++ c1) ++ c2) 0 σ' ∧ ¬ (10 ≤ tk f L (ts f L p') ∧ tk f L (ts f L p') ≤ 13) ∧ par W' = 0 ∧ tk f L (ts f L p') ≠ 1 ∧ tk f L (ts f L p') ≠ 2) ∨ FTx f L S0 r σ'))
            refine dw (fun σg xg mg => ?_)
            unfold fM_either_90 fM_either_93
            rw [ifnn rfl, if_neg (by decide), if_neg (by decide)]
            have epg : pstep f L (p2, (3, so, 0, 1), W2, c1, c3, T, (0, pl)) = (tnx f L (ts f L p2), (1, so, 0, 0), bl 0 1, c1, (if x2 = 0 then c6 else c6 ++ [2001]), T, (0, pl)) := by
              rw [pstep_go (by omega)]
              unfold ptk tBeh
              rw [if_neg (by omega), if_pos rfl, if_neg hna, if_neg (fun z => z.2 hpar), if_neg (fun z => absurd z.2.2.2 (by decide)), if_pos ⟨Or.inl k1, hpar, rfl, by decide⟩, k1, hr1]
              rfl
            rw [epg] at hPI3
            have adv := tnx_s (f := f) (tk_lt (f := f) (L := L) (s := ts f L p2) (by omega))
            rw [zwp_bv]
            refine zwp_mono (M_next mg (by omega)) (fun _ σ2 ⟨z1, z2, _⟩ => ?_)
            exact pM_either_6 hx hso σ0 h20 S0 p0 dd m (tnx f L (ts f L p2)) 0 1 _ σ2 (by omega) (by omega) (by omega) hPI3 (hRcS.tr (Rc.st (by rw [epg]; exact Rc.rf))) (xg.tr z1) z2
          · have e72 : zwp (fM_either_72 (fun (x1 : Int) (x2 : Int) (x3 : Int) (σ : Zm) => fM_either_6 m x1 x2 x3 σ) 0 x2 σe) (fun r σ' => XF x σ0 σ' ∧ ((r = 0 ∧ ∃ p' W' c' c2, p0 < p' ∧ Rc f L S0 (p', (3, so, 0, 1), W', c1, c', T, (0, pl)) ∧ PI L (p', (3, so, 0, 1), W', c1, c', T, (0, pl)) ∧ rel 1 W' c' = ([], c2) ∧ MX0 f L x p' ((flat T ++ c1) ++ c2) 0 σ' ∧ ¬ (10 ≤ tk f L (ts f L p') ∧ tk f L (ts f L p') ≤ 13) ∧ par W' = 0 ∧ tk f L (ts f L p') ≠ 1 ∧ tk f L (ts f L p') ≠ 2) ∨ FTx f L S0 r σ')) := by
              unfold fM_either_72 fM_either_75
              rw [ifnn rfl]
              have dw := down (fun σ11 => fM_either_90 (fun (x1 : Int) (x2 : Int) (x3 : Int) (σ : Zm) => fM_either_6 m x1 x2 x3 σ) 0 0 σ11) (fun r σ' => XF x σ0 σ' ∧ ((r = 0 ∧ ∃ p' W' c' c2, p0 < p' ∧ Rc f L S0 (p', (3, so, 0, 1), W', c1, c', T, (0, pl)) ∧ PI L (p', (3, so, 0, 1), W', c1, c', T, (0, pl)) ∧ rel 1 W' c' = ([], c2) ∧ MX0 f L x p' ((flat T ++ c1) ++ c2) 0 σ' ∧ ¬ (10 ≤ tk f L (ts f L p') ∧ tk f L (ts f L p') ≤ 13) ∧ par W' = 0 ∧ tk f L (ts f L p') ≠ 1 ∧ tk f L (ts f L p') ≠ 2) ∨ FTx f L S0 r σ'))
              refine dw (fun σg xg mg => ?_)
              unfold fM_either_90 fM_either_93
              rw [ifnn rfl, if_pos rfl, if_pos rfl]
              obtain ⟨m', rfl⟩ : ∃ m', m = m' + 1 := ⟨m - 1, by omega⟩
              show zwp (fM_either_6 (m' + 1) 0 0 0 σg) _
              rw [fM_either_6, zwp_let, if_pos rfl, zwp_some]
              exact ⟨xg, Or.inl ⟨rfl, p2, W2, c3, _, by omega, hRcS, hPI2, hr1, mg, hna, hpar, k1, k2⟩⟩
            by_cases k9 : zrd σe 273 9 = 2
            · rw [ifnn k9, zwp_let, if_pos (fun z => k1 (hor.1 ⟨k9, z⟩))]
              exact e72
            · rw [if_pos k9]
              exact e72
      by_cases cx : x1 = 0
      · rw [if_pos cx] at hc6' ⊢
        subst hc6'
        exact mid σ1 XF.rf m1
      · rw [if_neg cx] at hc6' ⊢
        rw [if_neg cx] at hblx
        subst hc6'
        obtain ⟨σ5, g1, g2, g3, g4, g5⟩ := M_emit (c := 2002) (a := 21) (b := 0) hx m1 (by simp only [List.length_append]; omega) rfl (fun z => by omega) rfl rfl
        rw [zbv_eq g1]
        rw [List.append_assoc] at g3
        exact mid σ5 g2 g3
    · have hr := q.1
      rw [zwj (a := r) (by omega) (by omega), if_neg (by omega), zwp_some]
      exact ⟨hXF.tr y1, Or.inr (q.st hRc)⟩
/-! clauses -/
def XG (x : Nat) (σ σ' : Zm) : Prop := zfo mD σ σ' ∧ (∀ k, ¬ dyn k → k ≠ 12 → k ≠ 20 → zrd σ' 273 k = zrd σ 273 k) ∧ ∀ j, ¬ (900 * x ≤ j ∧ j < 900 * x + 900) → zrd σ' 276 j = zrd σ 276 j
theorem XG.rf {x : Nat} {σ : Zm} : XG x σ σ := ⟨zfo.rf, fun _ _ _ _ => rfl, fun _ _ => rfl⟩
theorem XG.tr {x : Nat} {σ σ1 σ2 : Zm} (h : XG x σ σ1) (h2 : XG x σ1 σ2) : XG x σ σ2 := ⟨h.1.tr h2.1, fun k a b c => (h2.2.1 k a b c).trans (h.2.1 k a b c), fun k a => (h2.2.2 k a).trans (h.2.2 k a)⟩
theorem XF.g {x : Nat} {σ σ1 : Zm} (h : XF x σ σ1) : XG x σ σ1 := ⟨h.1, fun k a _ _ => h.2.1 k a, fun j hj => h.2.2 j (fun z => hj ⟨by omega, z.2⟩)⟩
theorem MX0_276 {f : Nat → Int} {L x p d j : Nat} {v : Int} {C : List Int} {σ : Zm} {F : Zm → Zr} {P : Int → Zm → Prop} (h : MX0 f L x p C d σ) (hj : 900 * x ≤ j ∧ j < 900 * x + 60) (hF : ∀ σ', XG x σ σ' → MX0 f L x p C d σ' → (∀ i, zrd σ' 276 i = if i = j then zw v else zrd σ 276 i) → (∀ k, zrd σ' 273 k = zrd σ 273 k) → zwp (F σ') P) : zwp (zlet (zst σ 276 j v) F) P := by
  have fo : zfo (oO 276) σ (zst σ 276 j v) := zfo.st1 zfo.rf
  have e : ∀ i, zrd (zst σ 276 j v) 276 i = if i = j then zw v else zrd σ 276 i := by
    intro i
    rw [zrd_st]
    by_cases c : i = j
    · rw [if_pos ⟨rfl, c⟩, if_pos c]
    · rw [if_neg (fun z => c z.2), if_neg c]
  obtain ⟨h1, h2, h3, h4, h5, h6⟩ := h
  exact hF _ ⟨fo.mono (fun q z => Or.inr (Or.inl z)), fun k _ _ _ => fo.rd (oO_ne (by omega)) k, fun i hi => by rw [e, if_neg (by omega)]⟩ ⟨⟨by rw [fo.rd (oO_ne (by omega))]; exact h1.1, h1.2.1, fun i hi => by rw [fo.rd (oO_ne (by omega))]; exact h1.2.2 i hi⟩, MTk_cg h2 (fun k _ _ => fo.rd (oO_ne (by omega)) k) rfl, by rw [fo.rd (oO_ne (by omega))]; exact h3, by rw [fo.rd (oO_ne (by omega))]; exact h4, sgm_cg _ _ (fun i a b => by rw [e, if_neg (by omega)]) h5, by rw [fo.rd (oO_ne (by omega))]; exact h6⟩ e (fun k => fo.rd (oO_ne (by omega)) k)
theorem MX0_20 {f : Nat → Int} {L x p d : Nat} {v : Int} {C : List Int} {σ : Zm} {F : Zm → Zr} {P : Int → Zm → Prop} (h : MX0 f L x p C d σ) (hF : ∀ σ', XG x σ σ' → MX0 f L x p C d σ' → zrd σ' 273 20 = zw v → (∀ i, zrd σ' 276 i = zrd σ 276 i) → zwp (F σ') P) : zwp (zlet (zst σ 273 20 v) F) P := by
  have fo : zfo (oO 273) σ (zst σ 273 20 v) := zfo.st1 zfo.rf
  have e : ∀ i, zrd (zst σ 273 20 v) 273 i = if i = 20 then zw v else zrd σ 273 i := by
    intro i
    rw [zrd_st]
    by_cases c : i = 20
    · rw [if_pos ⟨rfl, c⟩, if_pos c]
    · rw [if_neg (fun z => c z.2), if_neg c]
  obtain ⟨h1, h2, h3, h4, h5, h6⟩ := h
  exact hF _ ⟨fo.mono (fun q z => Or.inl z), fun k _ _ hk => by rw [e, if_neg hk], fun i hi => fo.rd (oO_ne (by omega)) i⟩ ⟨⟨by rw [e, if_neg (by omega)]; exact h1.1, h1.2.1, fun i hi => by rw [fo.rd (oO_ne (by omega))]; exact h1.2.2 i hi⟩, MTk_cg h2 (fun k a b => by rw [e, if_neg (by omega)]) rfl, by rw [e, if_neg (by omega)]; exact h3, by rw [e, if_neg (by omega)]; exact h4, sgm_cg _ _ (fun i a b => (fo.rd (oO_ne (by omega)) i).symm) h5, by rw [e, if_neg (by omega)]; exact h6⟩ (by rw [e, if_pos rfl]) (fun i => fo.rd (oO_ne (by omega)) i)
/-- the clauses' heads in the reference's text -/
def HM (σ : Zm) (x : Nat) : List Cl → Nat → Nat → Prop
  | [], _, _ => True
  | c :: T, k, a => (zrd σ 276 (900 * x + 1 + 5 * k) = c.1 + 1 ∧ zrd σ 276 (900 * x + 1 + 5 * k + 1) = ((a + c.2.1.length : Nat) : Int) ∧ zrd σ 276 (900 * x + 1 + 5 * k + 2) = ((a + c.2.1.length + c.2.2.length : Nat) : Int) ∧ (c.1 < 2 → zrd σ 276 (900 * x + 1 + 5 * k + 3) = (a : Int) ∧ zrd σ 276 (900 * x + 1 + 5 * k + 4) = ((a + c.2.1.length : Nat) : Int))) ∧ HM σ x T (k + 1) (a + c.2.1.length + c.2.2.length)
theorem HM_cg {σ σ' : Zm} {x : Nat} : ∀ (T : List Cl) (k a : Nat), (∀ j, 900 * x + 1 ≤ j → j < 900 * x + 1 + 5 * (k + T.length) → zrd σ' 276 j = zrd σ 276 j) → HM σ x T k a → HM σ' x T k a
  | [], _, _, _, _ => trivial
  | c :: T, k, a, h, hh => by
    simp only [List.length_cons] at h
    refine ⟨?_, HM_cg T (k + 1) _ (fun j h1 h2 => h j h1 (by omega)) hh.2⟩
    rw [h _ (by omega) (by omega), h _ (by omega) (by omega), h _ (by omega) (by omega), h _ (by omega) (by omega), h _ (by omega) (by omega)]
    exact hh.1
theorem HM_ap {σ : Zm} {x : Nat} (so : Int) (c1 c : List Int) : ∀ (T : List Cl) (k a : Nat), HM σ x T k a → zrd σ 276 (900 * x + 1 + 5 * (k + T.length)) = so + 1 → zrd σ 276 (900 * x + 1 + 5 * (k + T.length) + 1) = ((a + (flat T).length + c1.length : Nat) : Int) → zrd σ 276 (900 * x + 1 + 5 * (k + T.length) + 2) = ((a + (flat T).length + c1.length + c.length : Nat) : Int) → (so < 2 → zrd σ 276 (900 * x + 1 + 5 * (k + T.length) + 3) = ((a + (flat T).length : Nat) : Int) ∧ zrd σ 276 (900 * x + 1 + 5 * (k + T.length) + 4) = ((a + (flat T).length + c1.length : Nat) : Int)) → HM σ x (T ++ [(so, c1, c)]) k a
  | [], k, a, _, h2, h3, h4, h5 => ⟨⟨h2, h3, h4, h5⟩, trivial⟩
  | b :: T, k, a, hh, h2, h3, h4, h5 => by
    have e : (flat (b :: T)).length = b.2.1.length + (b.2.2.length + (flat T).length) := by
      show (b.2.1 ++ (b.2.2 ++ flat T)).length = _
      simp only [List.length_append]
    rw [e] at h3 h4 h5
    have ek : k + (b :: T).length = k + 1 + T.length := by simp only [List.length_cons]; omega
    rw [ek] at h2 h3 h4 h5
    refine ⟨hh.1, HM_ap so c1 c T (k + 1) _ hh.2 h2 (by rw [h3]; omega) (by rw [h4]; omega) (fun z => ?_)⟩
    obtain ⟨h6, h7⟩ := h5 z
    exact ⟨by rw [h6]; omega, by rw [h7]; omega⟩
theorem sgm_split {f : Nat → Int} : ∀ (l r : List Int) (i : Nat), sgm f i (l ++ r) → sgm f i l ∧ sgm f (i + 2 * l.length) r
  | [], r, i, h => ⟨trivial, h⟩
  | a :: l, r, i, h => by
    have ih := sgm_split l r (i + 2) h.2
    refine ⟨⟨h.1, ih.1⟩, ?_⟩
    have := ih.2
    rw [show i + 2 + 2 * l.length = i + 2 * (a :: l).length by simp only [List.length_cons]; omega] at this
    exact this
theorem TMl_of {σ : Zm} {x : Nat} : ∀ (T : List Cl) (k a : Nat), HM σ x T k a → a + (flat T).length ≤ 300 → sgm (zrd σ 276) (900 * x + 60 + 2 * a) (flat T) → TMl σ x T k
  | [], _, _, _, _, _ => trivial
  | c :: T, k, a, h, hl, hs => by
    have e : (flat (c :: T)).length = c.2.1.length + (c.2.2.length + (flat T).length) := by
      show (c.2.1 ++ (c.2.2 ++ flat T)).length = _
      simp only [List.length_append]
    obtain ⟨s1, s2⟩ := sgm_split c.2.1 (c.2.2 ++ flat T) _ hs
    obtain ⟨s3, s4'⟩ := sgm_split c.2.2 (flat T) _ s2
    refine ⟨⟨h.1.1, ⟨a + c.2.1.length, h.1.2.1, h.1.2.2.1, by omega, ?_⟩, fun hc => ⟨a, (h.1.2.2.2 hc).1, (h.1.2.2.2 hc).2, by omega, s1⟩⟩, TMl_of T (k + 1) _ h.2 (by omega) ?_⟩
    · rw [show 900 * x + 60 + 2 * (a + c.2.1.length) = 900 * x + 60 + 2 * a + 2 * c.2.1.length by omega]; exact s3
    · rw [show 900 * x + 60 + 2 * (a + c.2.1.length + c.2.2.length) = 900 * x + 60 + 2 * a + 2 * c.2.1.length + 2 * c.2.2.length by omega]; exact s4'

/-! MY OWN: conditions, clauses, the whole text, as the reference reads them -/
def nots (j : Nat) : List Int := List.replicate j 3
def b12 (B : List Int) : Prop := ∀ b ∈ B, b = 1 ∨ b = 2
theorem b12_bB {B : List Int} (h : b12 B) : bB B := fun b hb => by have := h b hb; omega
theorem b12_aro : ∀ {B : List Int}, b12 B → aro B = 0
  | [], _ => rfl
  | b :: B, h => by
    have hb := h b (List.mem_cons_self ..)
    show (if b = 0 ∨ b = 3 ∨ b = 14 then aro B + 1 else aro B) = 0
    rw [if_neg (by omega)]
    exact b12_aro (fun y hy => h y (List.mem_cons_of_mem _ hy))
theorem b12_rel {c : List Int} : ∀ {B : List Int}, b12 B → rel 3 B c = (B, c)
  | [], _ => rfl
  | b :: B, h => by
    have hb := h b (List.mem_cons_self ..)
    have hz := zLvI (a := b) (by omega)
    unfold rel
    rw [if_neg (by omega)]
theorem nots_aro : ∀ (j : Nat) (B : List Int), b12 B → aro (nots j ++ B) = j
  | 0, B, h => b12_aro h
  | j + 1, B, h => by
    have ih := nots_aro j B h
    show (if (3 : Int) = 0 ∨ (3 : Int) = 3 ∨ (3 : Int) = 14 then aro (nots j ++ B) + 1 else aro (nots j ++ B)) = j + 1
    rw [if_pos (by decide), ih]
theorem nots_bB {j : Nat} {B : List Int} (h : b12 B) : bB (nots j ++ B) := by
  intro b hb
  rcases List.mem_append.1 hb with hb | hb
  · have := List.eq_of_mem_replicate hb
    omega
  · have := h b hb
    omega
theorem nots_rel : ∀ (j : Nat) (B c : List Int), b12 B → rel 3 (nots j ++ B) c = (B, c ++ List.replicate j 2003)
  | 0, B, c, h => by
    show rel 3 B c = (B, c ++ [])
    rw [List.append_nil]
    exact b12_rel h
  | j + 1, B, c, h => by
    have ih := nots_rel j B (c ++ [2003]) h
    show (if (3 : Int) ≤ zLv (3 : Int).toNat then rel 3 (nots j ++ B) (c ++ [2000 + 3]) else _) = _
    rw [if_pos (by decide)]
    have e : c ++ List.replicate (j + 1) (2003 : Int) = (c ++ [2003]) ++ List.replicate j 2003 := by
      rw [List.append_assoc]; rfl
    rw [e]
    exact ih
theorem pM_asks_2 {f : Nat → Int} {L x : Nat} (hx : x < 6) {B : List Int} (hB : b12 B) {so pl : Int} {c1 c : List Int} {T : List Cl} (σ0 : Zm) (S0 : PS) (p0 : Nat) (Q : Int → Zm → Prop) (K : Int → Zm → Zr)
    (hK : ∀ σ' p' j', XF x σ0 σ' → p0 ≤ p' → Rc f L S0 (p', (1, so, 0, 0), nots j' ++ B, c1, c, T, (0, pl)) → PI L (p', (1, so, 0, 0), nots j' ++ B, c1, c, T, (0, pl)) → MX0 f L x p' ((flat T ++ c1) ++ c) j' σ' → j' ≤ 8 → tk f L (ts f L p') ≠ 3 → zwp (K (j' : Int) σ') Q)
    (hQ : ∀ r σ', XF x σ0 σ' → FTx f L S0 r σ' → Q r σ') : ∀ (dd m p j : Nat) (σ : Zm), dd < m → L < p + dd → p0 ≤ p → PI L (p, (1, so, 0, 0), nots j ++ B, c1, c, T, (0, pl)) → Rc f L S0 (p, (1, so, 0, 0), nots j ++ B, c1, c, T, (0, pl)) → XF x σ0 σ → MX0 f L x p ((flat T ++ c1) ++ c) j σ → j ≤ 8 → zwp (fM_asks_2 m (j : Int) σ K) Q
  | 0, m, p, j, σ, _, h, _, hPI, _, _, _, _ => by
    have := hPI.1
    omega
  | dd + 1, m + 1, p, j, σ, hm, hd, hp0, hPI, hRc, hXF, hM, hj => by
    rw [fM_asks_2]
    rw [zwp_let]
    have hKK := MX_KK hM
    rw [wk_not, word_eq hKK (i := 7) (w := 7237492) (by decide) (by decide), show wkd ((7 : Nat) : Int) = 3 by rfl]
    by_cases k3 : tk f L (ts f L p) = 3
    · rw [if_pos ⟨k3, fun z => by omega⟩, if_neg (by decide), zwp_let, hM.2.2.2.2.2]
      have har := nots_aro j B hB
      have epg : pstep f L (p, (1, so, 0, 0), nots j ++ B, c1, c, T, (0, pl)) = nest (ts f L p : Int) (tnx f L (ts f L p)) 3 1 1 so 0 0 (nots j ++ B) c1 c T pl := by
        rw [pstep_go (by omega)]
        unfold ptk tOne
        rw [if_neg (by omega), if_neg (by omega), if_neg (by omega), if_neg (by omega), if_pos ⟨k3, rfl⟩]
      unfold nest at epg
      rw [har] at epg
      have adv := tnx_s (f := f) (tk_lt (f := f) (L := L) (s := ts f L p) (by omega))
      have hts := ts_bd (f := f) hPI.1
      by_cases c8 : j < 8
      · rw [if_pos (by omega), zwp_let]
        rw [if_pos c8] at epg
        refine MX0_18 (d' := j + 1) hM (by rw [zwj (by omega) (by omega)]; omega) (fun σ1 x1 m1 k1 q1 => ?_)
        rw [zwp_bv]
        refine zwp_mono (M_next m1 (by omega)) (fun _ σ2 ⟨y1, y2, y3⟩ => ?_)
        rw [show zw ((j : Int) + 1) = ((j + 1 : Nat) : Int) by rw [zwj (by omega) (by omega)]; omega]
        have hPI' := (PI_step (f := f) _ hPI (fun z => by rcases z with z | z; exact z rfl; omega)).1
        rw [epg] at hPI'
        exact pM_asks_2 hx hB σ0 S0 p0 Q K hK hQ dd m (tnx f L (ts f L p)) (j + 1) σ2 (by omega) (by omega) (by omega) hPI' (hRc.tr (Rc.st (by rw [epg]; exact Rc.rf))) ((hXF.tr x1).tr y1) y2 (by omega)
      · rw [ifnn (by omega), zwp_some]
        rw [if_neg c8] at epg
        refine hQ 3 σ hXF (FTx.st (S' := (p, (1, so, 0, 0), nots j ++ B, c1, c, T, (0, pl))) ⟨by omega, _, Rc.st Rc.rf, ?_⟩ hRc)
        rw [epg, hM.2.1.1]
    · rw [if_neg (fun z => k3 z.1), if_pos rfl]
      exact hK σ p j hXF hp0 hRc hPI hM hj k3
theorem qM_compareOf {k v : Int} {σ : Zm} (hK : KK k v σ) : fM_compareOf σ = some (if 4 ≤ k ∧ k ≤ 9 then k + 6 else -1, σ) := by
  unfold fM_compareOf
  simp only [zlet]
  by_cases k4 : k = 4
  · rw [ifnn ((KK_lt hK).2 k4), if_pos (by omega), k4]; rfl
  · rw [if_pos (fun z => k4 ((KK_lt hK).1 z))]
    by_cases k5 : k = 5
    · rw [ifnn ((KK_le hK).2 k5), if_pos (by omega), k5]; rfl
    · rw [if_pos (fun z => k5 ((KK_le hK).1 z))]
      by_cases k6 : k = 6
      · rw [ifnn ((KK_gt hK).2 k6), if_pos (by omega), k6]; rfl
      · rw [if_pos (fun z => k6 ((KK_gt hK).1 z))]
        by_cases k7 : k = 7
        · rw [ifnn ((KK_ge hK).2 k7), if_pos (by omega), k7]; rfl
        · rw [if_pos (fun z => k7 ((KK_ge hK).1 z))]
          by_cases k8 : k = 8
          · rw [ifnn ((KK_eq hK).2 k8), if_pos (by omega), k8]; rfl
          · rw [if_pos (fun z => k8 ((KK_eq hK).1 z))]
            by_cases k9 : k = 9
            · rw [ifnn ((KK_ne hK).2 k9), if_pos (by omega), k9]; rfl
            · rw [if_pos (fun z => k9 ((KK_ne hK).1 z)), if_neg (by omega)]
theorem pM_asks_105 {f : Nat → Int} {L x p d : Nat} (hx : x < 6) {X : List Int} (j : Nat) : ∀ (e m i : Nat) (c : List Int) (σ : Zm), e < m → i + e = j → j ≤ 300 → (X ++ c).length + e ≤ 300 → MX0 f L x p (X ++ c) d σ → zwp (fM_asks_105 m (j : Int) (i : Int) σ) (fun r σ' => r = 0 ∧ XF x σ σ' ∧ MX0 f L x p (X ++ (c ++ List.replicate e 2003)) d σ')
  | 0, m + 1, i, c, σ, _, hi, _, _, h => by
    rw [fM_asks_105, zwp_let, if_pos (by omega), zwp_some]
    refine ⟨rfl, XF.rf, ?_⟩
    show MX0 f L x p (X ++ (c ++ [])) d σ
    rw [List.append_nil]; exact h
  | e + 1, m + 1, i, c, σ, hm, hi, hj, hl, h => by
    rw [fM_asks_105, zwp_let, if_neg (by omega)]
    obtain ⟨σ1, g1, g2, g3, g4, g5⟩ := M_emit (c := 2003) (a := 20) (b := 0) hx h (by omega) rfl (fun z => by omega) rfl rfl
    rw [zbv_eq g1, show zw ((i : Int) + 1) = ((i + 1 : Nat) : Int) by rw [zwj (by omega) (by omega)]; omega]
    rw [List.append_assoc] at g3
    refine zwp_mono (pM_asks_105 hx j e m (i + 1) (c ++ [2003]) σ1 (by omega) (by omega) hj (by simp only [List.length_append, List.length_cons, List.length_nil] at hl ⊢; omega) g3) (fun r σ2 ⟨q1, q2, q3⟩ => ⟨q1, g2.tr q2, ?_⟩)
    have e' : c ++ List.replicate (e + 1) (2003 : Int) = (c ++ [2003]) ++ List.replicate e 2003 := by
      rw [List.append_assoc]; rfl
    rw [e']
    exact q3
/-- one comparison -/
theorem qM_asks {f : Nat → Int} {L x p : Nat} (hx : x < 6) {B : List Int} (hB : b12 B) {so pl : Int} {c1 c : List Int} {T : List Cl} {σ : Zm} (hso : 0 ≤ so ∧ so ≤ 3) (h20 : zrd σ 273 20 = so + 1) (hPI : PI L (p, (1, so, 0, 0), B, c1, c, T, (0, pl))) (h : MX0 f L x p ((flat T ++ c1) ++ c) 0 σ) : zwp (fM_asks σ) (fun r σ' => XF x σ σ' ∧ ((r = 0 ∧ ∃ p' W' c' c2, p < p' ∧ Rc f L (p, (1, so, 0, 0), B, c1, c, T, (0, pl)) (p', (3, so, 0, 1), W', c1, c', T, (0, pl)) ∧ PI L (p', (3, so, 0, 1), W', c1, c', T, (0, pl)) ∧ rel 3 W' c' = (B, c2) ∧ MX0 f L x p' ((flat T ++ c1) ++ c2) 0 σ' ∧ ¬ (10 ≤ tk f L (ts f L p') ∧ tk f L (ts f L p') ≤ 13) ∧ par W' = 0) ∨ FTx f L (p, (1, so, 0, 0), B, c1, c, T, (0, pl)) r σ')) := by
  have hL := h.1.2.1
  unfold fM_asks
  refine pM_asks_2 hx hB σ (p, (1, so, 0, 0), B, c1, c, T, (0, pl)) p _ _ ?_ (fun r σ' a b => ⟨a, Or.inr b⟩) (L + 1) 5000 p 0 σ (by omega) (by omega) (Nat.le_refl _) hPI Rc.rf XF.rf h (by omega)
  intro σ1 p1 j x1 hp1 hRc1 hPI1 m1 hj8 hn3
  have harj := nots_aro j B hB
  have h20a : zrd σ1 273 20 = so + 1 := by rw [x1.2.1 20 (by unfold dyn; omega)]; exact h20
  rw [zwp_bi]
  have hs1 := qM_summed hx (nots_bB (j := j) hB) (du := 1) hso h20a hPI1 (Or.inr ⟨rfl, hn3⟩) (by omega) (by rw [harj]; exact m1)
  refine zwp_mono hs1 (fun r σ2 ⟨x2, q⟩ => ?_)
  rcases q with ⟨q0, p2, W2, c2, c3, hp2, hRc2, hPI2, hr5, m2, hna, hpar⟩ | q
  · subst q0
    rw [show zw 0 = 0 from rfl, if_pos rfl]
    rw [harj] at m2
    have hKK := MX_KK m2
    have hk0 : -1 ≤ (if 4 ≤ tk f L (ts f L p2) ∧ tk f L (ts f L p2) ≤ 9 then tk f L (ts f L p2) + 6 else -1) ∧ (if 4 ≤ tk f L (ts f L p2) ∧ tk f L (ts f L p2) ≤ 9 then tk f L (ts f L p2) + 6 else -1) ≤ 15 := by split <;> omega
    rw [zbi_eq (qM_compareOf hKK), zwj (by omega) (by omega)]
    by_cases ck : 4 ≤ tk f L (ts f L p2) ∧ tk f L (ts f L p2) ≤ 9
    · rw [if_pos ck, if_pos (by omega), zwp_bv]
      refine zwp_mono (M_next m2 (by omega)) (fun _ σ3 ⟨x3, m3, _⟩ => ?_)
      have adv := tnx_s (f := f) (tk_lt (f := f) (L := L) (s := ts f L p2) (by omega))
      have hts2 := ts_bd (f := f) hPI2.1
      have epg : pstep f L (p2, (3, so, 0, 0), W2, c1, c2, T, (0, pl)) = (tnx f L (ts f L p2), (2, so, 0, 1), tk f L (ts f L p2) :: (nots j ++ B), c1, c3, T, (0, pl)) := by
        rw [pstep_go (by omega)]
        unfold ptk tBeh
        rw [if_neg (by omega), if_pos rfl, if_neg (by omega), if_neg (by omega), if_pos ⟨ck, hpar, rfl, rfl⟩, hr5]
      have hPI3 := (PI_step (f := f) _ hPI2 (fun z => by rcases z with z | z; exact z rfl; omega)).1
      rw [epg] at hPI3
      generalize hk : tk f L (ts f L p2) = k at *
      generalize hn : tnx f L (ts f L p2) = n at *
      have hRc3 : Rc f L (p, (1, so, 0, 0), B, c1, c, T, (0, pl)) (n, (2, so, 0, 1), k :: (nots j ++ B), c1, c3, T, (0, pl)) := (hRc1.tr hRc2).tr (Rc.st (by rw [epg]; exact Rc.rf))
      have h20c : zrd σ3 273 20 = so + 1 := by rw [x3.2.1 20 (by unfold dyn; omega), x2.2.1 20 (by unfold dyn; omega)]; exact h20a
      have hBk : bB (k :: (nots j ++ B)) := by
        intro b hb
        rcases List.mem_cons.1 hb with rfl | hb
        · omega
        · exact nots_bB hB b hb
      have hark : aro (k :: (nots j ++ B)) = j := by rw [aro_o (by omega)]; exact harj
      rw [zwp_bi]
      have hs2 := qM_summed hx hBk (du := 2) hso h20c hPI3 (Or.inl rfl) (by omega) (by rw [hark]; exact m3)
      refine zwp_mono hs2 (fun r σ4 ⟨x4, q⟩ => ?_)
      rcases q with ⟨q0, p4, W4, c4, c5, hp4, hRc4, hPI4, hr5b, m4, hnb, hparb⟩ | q
      · subst q0
        rw [show zw 0 = 0 from rfl, if_pos rfl]
        rw [hark] at m4
        have hsum := hPI4.2.2.1
        have hp4L := hPI4.1
        have hrl := rel_len 5 W4 c4
        rw [hr5b] at hrl
        simp only [List.length_cons, List.length_append, nots, List.length_replicate] at hrl
        obtain ⟨σ5, g1, g2, g3, g4, g5⟩ := M_emit (c := 2000 + k) (a := k + 6) (b := 0) hx m4 (by simp only [List.length_append]; omega) (by rw [eno_op (by omega), if_neg (by omega), if_neg (by omega), if_neg (by omega), if_pos (by omega)]) (fun z => by omega) (zwj (by omega) (by omega)) rfl
        rw [zbv_eq g1, zwp_let, g3.2.2.2.2.2]
        refine MX0_18 (d' := 0) g3 (by rw [show (j : Int) - j = 0 by omega]; rfl) (fun σ6 x6 m6 k6 r6 => ?_)
        rw [List.append_assoc] at m6
        refine zwp_mono (pM_asks_105 hx j j 5000 0 (c5 ++ [2000 + k]) σ6 (by omega) (by omega) (by omega) (by simp only [List.length_append, List.length_cons, List.length_nil]; omega) m6) (fun r σ7 ⟨w1, w2, w3⟩ => ?_)
        refine ⟨(((((x1.tr x2).tr x3).tr x4).tr g2).tr x6).tr w2, Or.inl ⟨w1, p4, W4, c4, (c5 ++ [2000 + k]) ++ List.replicate j 2003, by omega, hRc3.tr hRc4, hPI4, ?_, w3, hnb, hparb⟩⟩
        rw [rel_lo' (show (3 : Int) ≤ 5 by omega) hr5b]
        have hzk := zLvI (a := k) (by omega)
        have er : rel 3 (k :: (nots j ++ B)) c5 = if 3 ≤ zLv k.toNat then rel 3 (nots j ++ B) (c5 ++ [2000 + k]) else (k :: (nots j ++ B), c5) := rfl
        rw [er, if_pos (by omega), nots_rel j B _ hB]
      · have hr := q.1
        rw [zwj (a := r) (by omega) (by omega), if_neg (by omega), zwp_some]
        exact ⟨((x1.tr x2).tr x3).tr x4, Or.inr (q.st hRc3)⟩
    · rw [if_neg ck, if_neg (by decide), zwp_some]
      refine ⟨x1.tr x2, Or.inr ((FT_now (by omega) (by omega) ?_ m2.2.1.1).st (hRc1.tr hRc2))⟩
      unfold ptk tBeh
      rw [if_neg (by omega), if_pos rfl, if_neg hna, if_neg (fun z => z.2 hpar), if_neg (fun z => ck z.1), if_neg (fun z => z.2.2.2 rfl), if_neg (fun z => z.2.2 rfl), if_neg (fun z => z.2.2.2 rfl)]
  · have hr := q.1
    rw [zwj (a := r) (by omega) (by omega), if_neg (by omega), zwp_some]
    exact ⟨x1.tr x2, Or.inr (q.st hRc1)⟩
/-- what waits between comparisons -/
def bl (x1 x2 : Int) : List Int := if x1 = 0 then (if x2 = 0 then [] else [1]) else 2 :: (if x2 = 0 then [] else [1])
theorem bl_12 (x1 x2 : Int) : b12 (bl x1 x2) := by
  intro b hb
  unfold bl at hb
  split at hb
  · split at hb
    · exact absurd hb (by simp)
    · simp at hb; omega
  · split at hb
    · simp at hb; omega
    · simp at hb; omega
theorem bl_2 (x1 x2 : Int) (c : List Int) : rel 2 (bl x1 x2) c = (bl 0 x2, if x1 = 0 then c else c ++ [2002]) := by
  unfold bl
  by_cases c1 : x1 = 0
  · rw [if_pos c1, if_pos c1, if_pos rfl]
    by_cases c2 : x2 = 0
    · rw [if_pos c2]; rfl
    · rw [if_neg c2]
      show (if (2 : Int) ≤ zLv (1 : Int).toNat then _ else _) = _
      rw [if_neg (by decide)]
  · rw [if_neg c1, if_neg c1, if_pos rfl]
    show (if (2 : Int) ≤ zLv (2 : Int).toNat then rel 2 _ (c ++ [2000 + 2]) else _) = _
    rw [if_pos (by decide)]
    by_cases c2 : x2 = 0
    · rw [if_pos c2]; rfl
    · rw [if_neg c2]
      show (if (2 : Int) ≤ zLv (1 : Int).toNat then _ else _) = _
      rw [if_neg (by decide)]; rfl
theorem bl_1 (x2 : Int) (c : List Int) : rel 1 (bl 0 x2) c = ([], if x2 = 0 then c else c ++ [2001]) := by
  unfold bl
  rw [if_pos rfl]
  by_cases c2 : x2 = 0
  · rw [if_pos c2, if_pos c2]; rfl
  · rw [if_neg c2, if_neg c2]
    show (if (1 : Int) ≤ zLv (1 : Int).toNat then rel 1 [] (c ++ [2000 + 1]) else _) = _
    rw [if_pos (by decide)]; rfl

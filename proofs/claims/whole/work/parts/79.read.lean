/-! MY OWN: the class reads a whole text -/
theorem tnx_s {f : Nat → Int} {L s : Nat} (hs : s < L) : s < tnx f L s ∧ tnx f L s ≤ L := by
  obtain ⟨d, hd⟩ : ∃ d, L - s = d + 1 := ⟨L - s - 1, by omega⟩
  unfold tnx
  rw [if_neg (by omega), hd]
  by_cases c1 : isl (f s) = true
  · have b := rn_bd isl f d (s + 1)
    rw [if_pos c1]
    show s < (if isl (f s) = true then rn isl f d (s + 1) else s) ∧ (if isl (f s) = true then rn isl f d (s + 1) else s) ≤ L
    rw [if_pos c1]
    omega
  · rw [if_neg c1]
    by_cases c2 : isd (f s) = true
    · have b := rn_bd isd f d (s + 1)
      rw [if_pos c2]
      show s < (if isd (f s) = true then rn isd f d (s + 1) else s) ∧ (if isd (f s) = true then rn isd f d (s + 1) else s) ≤ L
      rw [if_pos c2]
      omega
    · rw [if_neg c2]
      by_cases c3 : two f L s = true
      · rw [if_pos c3]
        unfold two at c3
        simp at c3
        omega
      · rw [if_neg c3]; omega
theorem tk_s {f : Nat → Int} {L s : Nat} (hs : s < L) : (0 ≤ tk f L s ∧ tk f L s ≤ 20 ∨ tk f L s = 22) ∧ (tk f L s = 18 → 0 ≤ tvl f L s ∧ tvl f L s ≤ 3) ∧ (tk f L s = 20 → 0 ≤ tvl f L s ∧ tvl f L s ≤ 1000) ∧ (tk f L s = 19 → 0 ≤ tvl f L s ∧ tvl f L s ≤ 20) := by
  unfold tk
  rw [if_neg (by omega)]
  by_cases c1 : isl (f s) = true
  · have ev : tvl f L s = if wnm (wv f s (rn isl f (L - s) s)) < 8 then wnm (wv f s (rn isl f (L - s) s)) else wnm (wv f s (rn isl f (L - s) s)) - 8 := by unfold tvl; rw [if_pos c1]
    have hw := wkd_c _ (wnm_bd (wv f s (rn isl f (L - s) s)))
    rw [if_pos c1, ev]
    generalize wnm (wv f s (rn isl f (L - s) s)) = n at *
    split <;> omega
  · have ev : tvl f L s = nmv f s (rn isd f (L - s) s - s) := by unfold tvl; rw [if_neg c1]
    rw [if_neg c1, ev]
    by_cases c2 : isd (f s) = true
    · rw [if_pos c2]
      have := nmv_bd (f := f) (s := s) (rn isd f (L - s) s - s) (fun j hj => rn_all isd f (L - s) s (s + j) (by omega) (by omega))
      omega
    · rw [if_neg c2]
      have hk := sgk_c (f s)
      by_cases c3 : two f L s = true
      · rw [if_pos c3]
        unfold two at c3
        simp at c3
        omega
      · rw [if_neg c3]; omega
theorem tk_e {f : Nat → Int} {L s : Nat} (hs : L ≤ s) : tk f L s = 21 := by unfold tk; rw [if_pos hs]
theorem ts_bd {f : Nat → Int} {L p : Nat} (hp : p ≤ L) : p ≤ ts f L p ∧ ts f L p ≤ L := by
  have := rn_bd isw f (L - p) p
  unfold ts
  omega
def fin : PS → Prop
  | (_, (du, _, _, _), _, _, _, _, (fa, _)) => fa ≠ 0 ∨ du = 4
def PI (L : Nat) : PS → Prop
  | (p, (du, so, pr, cm), W, c1, c, T, (fa, pl)) => p ≤ L ∧ (0 ≤ du ∧ du ≤ 4) ∧ (flat T).length + c1.length + c.length + W.length ≤ p ∧ inW W ∧ T.length ≤ 10 ∧ (1 ≤ du ∧ du ≤ 3 → T.length < 10) ∧ (0 ≤ pr ∧ pr ≤ 1) ∧ (0 ≤ cm ∧ cm ≤ 1) ∧ (pr ≠ 0 → c1 = []) ∧ (du = 0 → c1 = [] ∧ c = [])
theorem PI_tk {L p : Nat} {du so pr cm pl k v s : Int} {W c1 c : List Int} {T : List Cl} (h : PI L (p, (du, so, pr, cm), W, c1, c, T, (0, pl))) (hd : du ≠ 4) (n : Nat) (hn : (k = 21 ∧ n ≤ L ∧ p ≤ n) ∨ (0 ≤ k ∧ k ≠ 21 ∧ p < n ∧ n ≤ L)) (hs : 0 ≤ s) : PI L (ptk k v s n du so pr cm W c1 c T pl) ∧ (k = 21 → fin (ptk k v s n du so pr cm W c1 c T pl)) ∧ (ptk k v s n du so pr cm W c1 c T pl).1 = n := by
  obtain ⟨h1, h2, h3, h4, h5, h6, h7, h8, h9, h10⟩ := h
  have no : ∀ e, e ≠ 0 → PI L (n, (du, so, pr, cm), W, c1, c, T, (e, s)) ∧ (k = 21 → fin (n, (du, so, pr, cm), W, c1, c, T, (e, s))) ∧ ((n, (du, so, pr, cm), W, c1, c, T, (e, s)) : PS).1 = n := by
    intro e he
    exact ⟨⟨by omega, h2, by omega, h4, h5, h6, h7, h8, h9, h10⟩, fun _ => Or.inl he, rfl⟩
  have inc : ∀ x : Int, 0 ≤ x → x < 15 → inW W → ∀ l c0, inW (x :: (rel l W c0).1) := by
    intro x a b hW l c0 y hy
    rcases List.mem_cons.1 hy with rfl | hy
    · exact ⟨a, b⟩
    · exact rel_in l W c0 hW y hy
  unfold ptk
  by_cases d0 : du = 0
  · rw [if_pos d0]
    unfold tSort
    obtain ⟨e1, e2⟩ := h10 d0
    subst e1 e2
    simp only [List.length_nil] at h3
    by_cases k21 : k = 21
    · rw [if_pos k21]
      refine ⟨⟨by omega, by omega, ?_, h4, h5, fun z => by omega, h7, h8, h9, fun z => by omega⟩, fun _ => Or.inr rfl, rfl⟩
      simp only [List.length_nil]; omega
    · rw [if_neg k21]
      by_cases k18 : k = 18
      · rw [if_pos k18]
        by_cases hT : T.length < 10
        · rw [if_pos hT]
          refine ⟨⟨by omega, by split <;> omega, ?_, fun x hx => absurd hx (by simp), h5, fun _ => hT, by split <;> omega, by omega, fun _ => rfl, fun _ => ⟨rfl, rfl⟩⟩, fun z => absurd z k21, rfl⟩
          simp only [List.length_nil]; omega
        · rw [if_neg hT]; exact no 5 (by decide)
      · rw [if_neg k18]; exact no 1 (by decide)
  · rw [if_neg d0]
    by_cases d3 : du = 3
    · rw [if_pos d3]
      have hlen := fun l => rel_len l W c
      have hT := h6 (by omega)
      unfold tBeh
      by_cases a1 : 10 ≤ k ∧ k ≤ 13
      · rw [if_pos a1]
        have := hlen (if 11 < k then 6 else 5)
        refine ⟨⟨by omega, by omega, ?_, inc k (by omega) (by omega) h4 _ _, h5, fun _ => hT, h7, h8, h9, fun z => by omega⟩, fun z => by omega, rfl⟩
        simp only [List.length_cons]; omega
      · rw [if_neg a1]
        by_cases a2 : k = 15 ∧ par W ≠ 0
        · rw [if_pos a2]
          obtain ⟨W', hW'⟩ := rel_shut W c h4 a2.2
          have h1' := hlen 1
          have h2' := rel_in 1 W c h4
          rw [hW'] at h1' h2' ⊢
          simp only [List.length_cons] at h1'
          refine ⟨⟨by omega, by omega, ?_, fun x hx => h2' x (List.mem_cons_of_mem _ hx), h5, fun _ => hT, h7, h8, h9, fun z => by omega⟩, fun z => by omega, rfl⟩
          simp only [List.tail_cons]; omega
        · rw [if_neg a2]
          by_cases a3 : (4 ≤ k ∧ k ≤ 9) ∧ par W = 0 ∧ pr = 0 ∧ cm = 0
          · rw [if_pos a3]
            have := hlen 5
            refine ⟨⟨by omega, by omega, ?_, inc k (by omega) (by omega) h4 _ _, h5, fun _ => hT, h7, by omega, h9, fun z => by omega⟩, fun z => by omega, rfl⟩
            simp only [List.length_cons]; omega
          · rw [if_neg a3]
            by_cases a4 : (k = 1 ∨ k = 2) ∧ par W = 0 ∧ pr = 0 ∧ cm ≠ 0
            · rw [if_pos a4]
              have := hlen k
              refine ⟨⟨by omega, by omega, ?_, inc k (by omega) (by omega) h4 _ _, h5, fun _ => hT, h7, by omega, h9, fun z => by omega⟩, fun z => by omega, rfl⟩
              simp only [List.length_cons]; omega
            · rw [if_neg a4]
              by_cases a5 : k = 17 ∧ par W = 0 ∧ pr ≠ 0
              · rw [if_pos a5]
                have := hlen 1
                have e1 := h9 a5.2.2
                subst e1
                simp only [List.length_nil] at h3
                refine ⟨⟨by omega, by omega, ?_, rel_in 1 W c h4, h5, fun _ => hT, by omega, h8, fun z => absurd rfl z, fun z => by omega⟩, fun z => by omega, rfl⟩
                simp only [List.length_nil]; omega
              · rw [if_neg a5]
                by_cases a6 : k = 16 ∧ par W = 0 ∧ pr = 0 ∧ cm ≠ 0
                · rw [if_pos a6]
                  have := hlen 1
                  refine ⟨⟨by omega, by omega, ?_, rel_in 1 W c h4, ?_, fun z => by omega, h7, h8, fun z => rfl, fun _ => ⟨rfl, rfl⟩⟩, fun z => by omega, rfl⟩
                  · have e : (flat (T ++ [(so, c1, (rel 1 W c).2)])).length = (flat T).length + (c1.length + (rel 1 W c).2.length) := by
                      rw [flat_ap]
                      show (flat T ++ (c1 ++ ((rel 1 W c).2 ++ []))).length = _
                      simp only [List.length_append, List.length_nil]; omega
                    rw [e]
                    simp only [List.length_nil]; omega
                  · simp only [List.length_append, List.length_cons, List.length_nil]; omega
                · rw [if_neg a6]; exact no 1 (by decide)
    · rw [if_neg d3]
      have hT := h6 (by omega)
      have nst : ∀ x d, 0 ≤ x ∧ x < 15 → 1 ≤ d ∧ d ≤ 3 → k ≠ 21 → PI L (nest s n x d du so pr cm W c1 c T pl) ∧ (k = 21 → fin (nest s n x d du so pr cm W c1 c T pl)) ∧ (nest s n x d du so pr cm W c1 c T pl).1 = n := by
        intro x d hx hd' hk
        unfold nest
        by_cases a : aro W < 8
        · rw [if_pos a]
          refine ⟨⟨by omega, by omega, ?_, ?_, h5, fun _ => hT, h7, h8, h9, fun z => by omega⟩, fun z => absurd z hk, rfl⟩
          · simp only [List.length_cons]; omega
          · intro y hy
            rcases List.mem_cons.1 hy with rfl | hy
            · exact hx
            · exact h4 y hy
        · rw [if_neg a]; exact no 3 (by decide)
      have em : ∀ x, k ≠ 21 → PI L (n, (3, so, pr, cm), W, c1, c ++ [x], T, (0, pl)) ∧ (k = 21 → fin (n, (3, so, pr, cm), W, c1, c ++ [x], T, (0, pl))) ∧ ((n, (3, so, pr, cm), W, c1, c ++ [x], T, (0, pl)) : PS).1 = n := by
        intro x hk
        refine ⟨⟨by omega, by omega, ?_, h4, h5, fun _ => hT, h7, h8, h9, fun z => by omega⟩, fun z => absurd z hk, rfl⟩
        simp only [List.length_append, List.length_cons, List.length_nil]; omega
      unfold tOne
      by_cases k0 : k = 0
      · rw [if_pos k0]; exact nst 0 2 (by omega) (by omega) (by omega)
      · rw [if_neg k0]
        by_cases k11 : k = 11
        · rw [if_pos k11]; exact nst 14 2 (by omega) (by omega) (by omega)
        · rw [if_neg k11]
          by_cases k3 : k = 3 ∧ du = 1
          · rw [if_pos k3]; exact nst 3 1 (by omega) (by omega) (by omega)
          · rw [if_neg k3]
            by_cases k19 : k = 19
            · rw [if_pos k19]
              by_cases a : nks so v = true
              · rw [if_pos a]; exact em _ (by omega)
              · rw [if_neg a]; exact no 4 (by decide)
            · rw [if_neg k19]
              by_cases k20 : k = 20
              · rw [if_pos k20]
                by_cases a : v ≤ 999
                · rw [if_pos a]; exact em _ (by omega)
                · rw [if_neg a]; exact no 2 (by decide)
              · rw [if_neg k20]; exact no 1 (by decide)
theorem pstep_go {f : Nat → Int} {L p : Nat} {du so pr cm pl : Int} {W c1 c : List Int} {T : List Cl} (hdu : du ≠ 4) : pstep f L (p, (du, so, pr, cm), W, c1, c, T, (0, pl)) = ptk (tk f L (ts f L p)) (tvl f L (ts f L p)) (ts f L p : Int) (tnx f L (ts f L p)) du so pr cm W c1 c T pl := by
  show (if (0 : Int) = 0 ∧ du ≠ 4 then _ else _) = _
  exact if_pos ⟨rfl, hdu⟩
theorem pstep_no {f : Nat → Int} {L p : Nat} {du so pr cm pl fa : Int} {W c1 c : List Int} {T : List Cl} (h : fa ≠ 0 ∨ du = 4) : pstep f L (p, (du, so, pr, cm), W, c1, c, T, (fa, pl)) = (p, (du, so, pr, cm), W, c1, c, T, (fa, pl)) := by
  show (if fa = 0 ∧ du ≠ 4 then _ else _) = _
  refine if_neg ?_
  rintro ⟨a, b⟩
  rcases h with h | h
  · exact h a
  · exact b h
/-- one step keeps the bounds and goes on -/
theorem PI_step {f : Nat → Int} {L : Nat} (S : PS) (h : PI L S) (hf : ¬ fin S) : PI L (pstep f L S) ∧ (fin (pstep f L S) ∨ S.1 < (pstep f L S).1) := by
  obtain ⟨p, ⟨du, so, pr, cm⟩, W, c1, c, T, fa, pl⟩ := S
  have hfa : fa = 0 := Decidable.byContradiction (fun z => hf (Or.inl z))
  have hdu : du ≠ 4 := fun z => hf (Or.inr z)
  subst hfa
  have hp := h.1
  have hts := ts_bd (f := f) hp
  rw [pstep_go hdu]
  by_cases c1' : ts f L p < L
  · have h1 := tnx_s (f := f) c1'
    have h2 := (tk_s (f := f) c1').1
    obtain ⟨g1, g2, g3⟩ := PI_tk (k := tk f L (ts f L p)) (v := tvl f L (ts f L p)) (s := (ts f L p : Int)) h hdu (tnx f L (ts f L p)) (Or.inr ⟨by omega, by omega, by omega, by omega⟩) (by omega)
    exact ⟨g1, Or.inr (by rw [g3]; show p < _; omega)⟩
  · have h1 : tnx f L (ts f L p) = ts f L p := by unfold tnx; rw [if_pos (by omega)]
    have h2 := tk_e (f := f) (L := L) (s := ts f L p) (by omega)
    obtain ⟨g1, g2, g3⟩ := PI_tk (k := tk f L (ts f L p)) (v := tvl f L (ts f L p)) (s := (ts f L p : Int)) h hdu (tnx f L (ts f L p)) (Or.inl ⟨h2, by omega, by omega⟩) (by omega)
    exact ⟨g1, Or.inl (g2 h2)⟩
def pit (f : Nat → Int) (L : Nat) : Nat → PS → PS
  | 0, S => S
  | n + 1, S => pit f L n (pstep f L S)
def Rc (f : Nat → Int) (L : Nat) (S S' : PS) : Prop := ∃ n, pit f L n S = S'
theorem Rc.rf {f : Nat → Int} {L : Nat} {S : PS} : Rc f L S S := ⟨0, rfl⟩
theorem Rc.st {f : Nat → Int} {L : Nat} {S S' : PS} (h : Rc f L (pstep f L S) S') : Rc f L S S' := by
  obtain ⟨n, h⟩ := h
  exact ⟨n + 1, h⟩
theorem pit_add {f : Nat → Int} {L : Nat} : ∀ (n m : Nat) (S : PS), pit f L (n + m) S = pit f L m (pit f L n S)
  | 0, m, S => by rw [Nat.zero_add]; rfl
  | n + 1, m, S => by
    rw [show n + 1 + m = (n + m) + 1 by omega]
    exact pit_add n m (pstep f L S)
theorem Rc.tr {f : Nat → Int} {L : Nat} {S S1 S2 : PS} (h : Rc f L S S1) (h2 : Rc f L S1 S2) : Rc f L S S2 := by
  obtain ⟨n, h⟩ := h
  obtain ⟨m, h2⟩ := h2
  exact ⟨n + m, by rw [pit_add, h, h2]⟩
theorem pit_fin {f : Nat → Int} {L : Nat} {S : PS} (h : fin S) : ∀ n, pit f L n S = S
  | 0 => rfl
  | n + 1 => by
    have e : pstep f L S = S := by
      obtain ⟨p, ⟨du, so, pr, cm⟩, W, c1, c, T, fa, pl⟩ := S
      exact pstep_no h
    show pit f L n (pstep f L S) = S
    rw [e]
    exact pit_fin h n
/-- where it ends is one place -/
theorem Rc_one {f : Nat → Int} {L : Nat} {S S1 S2 : PS} (h1 : Rc f L S S1) (h2 : Rc f L S S2) (f1 : fin S1) (f2 : fin S2) : S1 = S2 := by
  obtain ⟨n, h1⟩ := h1
  obtain ⟨m, h2⟩ := h2
  have e1 : pit f L (n + m) S = S1 := by rw [pit_add, h1, pit_fin f1]
  have e2 : pit f L (m + n) S = S2 := by rw [pit_add, h2, pit_fin f2]
  rw [← e1, ← e2, Nat.add_comm]
/-- the class scans and takes -/
theorem qR_one {f : Nat → Int} {L R : Nat} {σ0 σ : Zm} (S : PS) (hR : ru R) (h : CR f L R σ0 S σ) (hP : PI L S) (hf : ¬ fin S) : zwp (fR_scan σ) (fun _ σ1 => zwp (fR_take σ1 R) (fun _ σ2 => CR f L R σ0 (pstep f L S) σ2)) := by
  obtain ⟨p, ⟨du, so, pr, cm⟩, W, c1, c, T, fa, pl⟩ := S
  have hfa : fa = 0 := Decidable.byContradiction (fun z => hf (Or.inl z))
  have hdu : du ≠ 4 := fun z => hf (Or.inr z)
  subst hfa
  have hC : tape f L σ ∧ zrd σ 150 5 = (p : Int) := by
    have := h.2
    by_cases cd : 1 ≤ du ∧ du ≤ 3
    · rw [if_pos cd] at this; exact ⟨this.1.1, this.1.2.2.1⟩
    · rw [if_neg cd] at this; exact ⟨this.1.1, this.1.2.2.1⟩
  obtain ⟨h1, h2, h3, h4, h5, h6, h7, h8, h9, h10⟩ := hP
  have hL := hC.1.2.1
  refine zwp_mono (qR_scan σ hC.1 hC.2 h1) (fun _ σ1 ⟨r1, g5, g6, g7, g8⟩ => ?_)
  have hts := ts_bd (f := f) h1
  have hkk := fun q => tk_s (f := f) (L := L) (s := ts f L p) q
  have hnn := fun q => tnx_s (f := f) (L := L) (s := ts f L p) q
  have hke : L ≤ ts f L p → tk f L (ts f L p) = 21 := fun q => tk_e q
  rw [pstep_go hdu]
  generalize hs : ts f L p = s at *
  generalize hk : tk f L s = k at *
  generalize hv : tvl f L s = v at *
  generalize hn : tnx f L s = n at *
  -- the memory behind the scan
  have hCR : CR f L R σ0 (n, (du, so, pr, cm), W, c1, c, T, (0, pl)) σ1 := by
    have rr := hR.1
    have ho : ∀ q, q ≠ 150 → ∀ k, zrd σ1 q k = zrd σ q k := fun q hq k => r1.1.rd (oO_ne hq) k
    have hq : ∀ k, ¬ s4 k → zrd σ1 150 k = zrd σ 150 k := fun k hk => r1.2 k hk
    have hca : ∀ {σ0 : Zm} {fa pl : Int}, CA f L R σ0 p fa pl σ → CA f L R σ0 n fa pl σ1 := by
      rintro σ0 fa pl ⟨⟨a1, a2, a3⟩, a4, a5, a6, a7⟩
      exact ⟨⟨by rw [hq 2 (by unfold s4; omega)]; exact a1, a2, fun j hj => by rw [ho 151 (by omega)]; exact a3 j hj⟩, a4.tr (r1.1.mono (fun q z => Or.inl z)), g5, by rw [hq 3 (by unfold s4; omega)]; exact a6, by rw [hq 4 (by unfold s4; omega)]; exact a7⟩
    obtain ⟨c9, hc⟩ := h
    refine ⟨by rw [hq 9 (by unfold s4; omega)]; exact c9, ?_⟩
    by_cases cd : 1 ≤ du ∧ du ≤ 3
    · rw [if_pos cd] at hc ⊢
      obtain ⟨z1, z2, z3, z4, z5, z6, z7⟩ := hc
      exact ⟨hca z1, CH_w z2 (fun q a b k => ho q (by omega) k) (ho R (by omega) 5), KCo_w z3 (ho R (by omega) 6) (ho _ (by omega)), KWo_w z4 (fun k a b => hq k (by unfold s4; omega)) (ho 152 (by omega)), by rw [hq 10 (by unfold s4; omega)]; exact z5, by rw [hq 11 (by unfold s4; omega)]; exact z6, by rw [hq 12 (by unfold s4; omega)]; exact z7⟩
    · rw [if_neg cd] at hc ⊢
      obtain ⟨z1, ⟨z2, z2'⟩, z3⟩ := hc
      exact ⟨hca z1, ⟨HD_cg T 0 0 (fun q a b j _ => ho q (by omega) j) z2, by rw [ho R (by omega) 5]; exact z2'⟩, KCo_w z3 (ho R (by omega) 6) (ho _ (by omega))⟩
  have hk21 : k ≠ 21 → s < L := fun q => by
    by_cases z : s < L
    · exact z
    · exact absurd (hke (by omega)) q
  have hsum : k ≠ 21 → (flat T).length + c1.length + c.length + W.length < 300 := fun q => by have := hk21 q; omega
  unfold fR_take ptk
  rw [zwp_let, hCR.1]
  by_cases d0 : du = 0
  · obtain ⟨e1, e2⟩ := h10 d0
    subst e1 e2 d0
    rw [if_pos rfl, if_pos rfl, zwp_bv]
    refine zwp_mono (qR_takeSort hR hCR g6 g7 (fun a b => g8 a b) (fun q => (hkk (hk21 (by omega))).2.1 q) (by omega)) (fun _ σ2 h2' => ?_)
    rw [zwp_some]; exact h2'
  · rw [if_neg d0, if_neg d0]
    by_cases d3 : du = 3
    · subst d3
      rw [if_neg (by decide), if_neg (by decide), if_pos rfl, zwp_bv]
      refine zwp_mono (qR_takeBehind hR hCR g6 g7 h4 (by omega) hsum (h6 (by omega)) h9 h7 h8) (fun _ σ2 h2' => ?_)
      rw [zwp_some]; exact h2'
    · have d12 : du = 1 ∨ du = 2 := by omega
      have hone := qR_takeOne hR hCR d12 g6 g7 (fun a b => g8 a b) (fun q => ((hkk (hk21 (by omega))).2.2.1 q).1) hsum
      rw [if_neg d3]
      have e : zwp (zbv (fR_takeOne σ1 R) fun σ5 => some (0, σ5)) (fun _ σ2 => CR f L R σ0 (tOne k v s n du so pr cm W c1 c T pl) σ2) := by
        rw [zwp_bv]
        refine zwp_mono hone (fun _ σ2 h2' => ?_)
        rw [zwp_some]; exact h2'
      rcases d12 with d | d
      · rw [if_pos d]; exact e
      · rw [if_neg (by omega), if_pos d]; exact e
theorem pR_read_32 {f : Nat → Int} {L R : Nat} {σ0 : Zm} (hR : ru R) (hL : L ≤ 300) : ∀ (d m j : Nat) (S : PS) (σ : Zm), d < m → j + d = L + 1 → CR f L R σ0 S σ → PI L S → (fin S ∨ j ≤ S.1) → zwp (fR_read_32 m R (j : Int) σ) (fun _ σ' => ∃ S', Rc f L S S' ∧ fin S' ∧ PI L S' ∧ CR f L R σ0 S' σ')
  | d, m + 1, j, S, σ, hm, hj, hC, hP, hf => by
    have ht : zrd σ 150 2 = (L : Int) ∧ zrd σ 150 9 = S.2.1.1 ∧ zrd σ 150 3 = S.2.2.2.2.2.2.1 := by
      obtain ⟨p, ⟨du, so, pr, cm⟩, W, c1, c, T, fa, pl⟩ := S
      obtain ⟨c9, hc⟩ := hC
      by_cases cd : 1 ≤ du ∧ du ≤ 3
      · rw [if_pos cd] at hc
        exact ⟨hc.1.1.1, c9, hc.1.2.2.2.1⟩
      · rw [if_neg cd] at hc
        exact ⟨hc.1.1.1, c9, hc.1.2.2.2.1⟩
    have hfin : fin S ↔ (S.2.2.2.2.2.2.1 ≠ 0 ∨ S.2.1.1 = 4) := by
      obtain ⟨p, ⟨du, so, pr, cm⟩, W, c1, c, T, fa, pl⟩ := S
      exact Iff.rfl
    have hp : S.1 ≤ L := by
      obtain ⟨p, ⟨du, so, pr, cm⟩, W, c1, c, T, fa, pl⟩ := S
      exact hP.1
    rw [fR_read_32]
    simp only [zwp_let]
    rw [ht.1, ht.2.1, ht.2.2]
    have done : fin S → zwp (some (0, σ) : Zr) (fun _ σ' => ∃ S', Rc f L S S' ∧ fin S' ∧ PI L S' ∧ CR f L R σ0 S' σ') := by
      intro h
      rw [zwp_some]
      exact ⟨S, Rc.rf, h, hP, hC⟩
    by_cases c1 : (L : Int) < j
    · rw [if_pos c1]
      refine done ?_
      rcases hf with hf | hf
      · exact hf
      · omega
    · rw [if_neg c1, zwp_let]
      by_cases c2 : S.2.1.1 = 4
      · rw [if_pos c2]
        exact done (hfin.2 (Or.inr c2))
      · rw [if_neg c2, zwp_let]
        by_cases c3 : S.2.2.2.2.2.2.1 = 0
        · rw [ifnn c3]
          have nf : ¬ fin S := fun z => by
            rcases hfin.1 z with z | z
            · exact z c3
            · exact c2 z
          obtain ⟨d', rfl⟩ : ∃ d', d = d' + 1 := ⟨d - 1, by omega⟩
          obtain ⟨p1, p2⟩ := PI_step (f := f) S hP nf
          rw [zwp_bv]
          refine zwp_mono (qR_one S hR hC hP nf) (fun _ σ1 h1 => ?_)
          rw [zwp_bv]
          refine zwp_mono h1 (fun _ σ2 h2 => ?_)
          rw [show zw ((j : Int) + 1) = ((j + 1 : Nat) : Int) by rw [zwj (by omega) (by omega)]; omega]
          refine zwp_mono (pR_read_32 hR hL d' m (j + 1) (pstep f L S) σ2 (by omega) (by omega) h2 p1 ?_) (fun _ σ3 ⟨S', q1, q2⟩ => ⟨S', q1.st, q2⟩)
          rcases p2 with p2 | p2
          · exact Or.inl p2
          · rcases hf with hf | hf
            · exact absurd hf nf
            · exact Or.inr (by omega)
        · rw [if_pos c3]
          exact done (hfin.2 (Or.inl c3))
def S0 : PS := (0, (0, 0, 0, 0), [], [], [], [], (0, -1))
theorem PI_0 {L : Nat} : PI L S0 := ⟨by omega, by omega, by simp [flat], fun x hx => absurd hx (by simp), by simp, fun z => by omega, by omega, by omega, fun _ => rfl, fun _ => ⟨rfl, rfl⟩⟩
theorem qR_read {f : Nat → Int} {L R : Nat} (σ : Zm) (hR : ru R) (ht : tape f L σ) : zwp (fR_read σ R) (fun _ σ' => ∃ S', Rc f L S0 S' ∧ fin S' ∧ PI L S' ∧ CR f L R σ S' σ') := by
  have rr := hR.1
  unfold fR_read
  refine RS_st (S := fun k => k ≠ 2) (by decide) (fun σ1 r1 e1 => ?_)
  refine RS_st (S := fun k => k ≠ 2) (by decide) (fun σ2 r2 e2 => ?_)
  refine RS_st (S := fun k => k ≠ 2) (by decide) (fun σ3 r3 e3 => ?_)
  refine RS_st (S := fun k => k ≠ 2) (by decide) (fun σ4 r4 e4 => ?_)
  have r := ((r1.tr r2).tr r3).tr r4
  refine zwp_st (fun σ5 f5 e5 => ?_)
  refine zwp_st (fun σ6 f6 e6 => ?_)
  have ho : ∀ q, q ≠ R → ∀ k, zrd σ6 q k = zrd σ4 q k := fun q a k => by rw [f6.rd (oO_ne a), f5.rd (oO_ne a)]
  have hf : zfo (cD R) σ σ6 := ((r.1.mono (D' := cD R) (fun q z => Or.inl z)).tr (f5.mono (fun q z => by unfold oO at z; unfold cD; omega))).tr (f6.mono (fun q z => by unfold oO at z; unfold cD; omega))
  refine pR_read_32 hR ht.2.1 (L + 1) 5000 0 S0 σ6 (by have := ht.2.1; omega) (by omega) ⟨?_, ?_⟩ PI_0 (Or.inr (Nat.le_refl _))
  · rw [ho 150 (by omega), e4, if_pos rfl]; rfl
  · rw [if_neg (by decide)]
    refine ⟨⟨⟨?_, ht.2.1, fun j hj => ?_⟩, hf, ?_, ?_, ?_⟩, ⟨trivial, ?_⟩, ⟨?_, trivial⟩⟩
    · rw [ho 150 (by omega), r.2 2 (fun z => z rfl)]; exact ht.1
    · rw [hf.rd (by unfold cD; omega)]; exact ht.2.2 j hj
    · rw [ho 150 (by omega), e4, if_neg (by decide), e3, if_pos rfl]; rfl
    · rw [ho 150 (by omega), e4, if_neg (by decide), e3, if_neg (by decide), e2, if_neg (by decide), e1, if_pos rfl]; rfl
    · rw [ho 150 (by omega), e4, if_neg (by decide), e3, if_neg (by decide), e2, if_pos rfl]; rfl
    · rw [e6, if_neg (by decide), e5, if_pos rfl]; rfl
    · rw [e6, if_pos rfl]; rfl
theorem TRl_of {σ : Zm} {R : Nat} : ∀ (T : List Cl) (k a : Nat), HD σ R T k a → a + (flat T).length ≤ 300 → sg (zrd σ (R + 1)) a (flat T) → TRl σ R T k
  | [], _, _, _, _, _ => trivial
  | c :: T, k, a, h, hl, hs => by
    have e : (flat (c :: T)).length = c.2.1.length + (c.2.2.length + (flat T).length) := by
      show (c.2.1 ++ (c.2.2 ++ flat T)).length = _
      simp only [List.length_append]
    obtain ⟨s1, s2⟩ := sg_split c.2.1 (c.2.2 ++ flat T) a hs
    obtain ⟨s3, s4'⟩ := sg_split c.2.2 (flat T) _ s2
    exact ⟨⟨h.1.1, a, h.1.2.1, h.1.2.2.1, h.1.2.2.2, by omega, s1, s3⟩, TRl_of T (k + 1) _ h.2 (by omega) s4'⟩

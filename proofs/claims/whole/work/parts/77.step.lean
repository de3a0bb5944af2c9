/-! MY OWN: a text read token by token -/
def rel (l : Int) : List Int → List Int → List Int × List Int
  | [], c => ([], c)
  | a :: W, c => if l ≤ zLv a.toNat then rel l W (c ++ [2000 + a]) else (a :: W, c)
def par : List Int → Nat
  | [] => 0
  | a :: W => if a = 0 then par W + 1 else par W
def aro : List Int → Nat
  | [] => 0
  | a :: W => if a = 0 ∨ a = 3 ∨ a = 14 then aro W + 1 else aro W
def inW (W : List Int) : Prop := ∀ a ∈ W, 0 ≤ a ∧ a < 15
abbrev PS : Type := Nat × (Int × Int × Int × Int) × List Int × List Int × List Int × List Cl × (Int × Int)
def tSort (k v s : Int) (n : Nat) (du so pr cm : Int) (W c1 c : List Int) (T : List Cl) (pl : Int) : PS :=
  if k = 21 then (n, (4, so, pr, cm), W, c1, c, T, (0, pl))
  else if k = 18 then (if T.length < 10 then (n, (if v = 0 ∨ v = 1 then 2 else 1, v, if v = 0 ∨ v = 1 then 1 else 0, 0), [], [], [], T, (0, pl)) else (n, (du, so, pr, cm), W, c1, c, T, (5, s)))
  else (n, (du, so, pr, cm), W, c1, c, T, (1, s))
def nest (s : Int) (n : Nat) (x d : Int) (du so pr cm : Int) (W c1 c : List Int) (T : List Cl) (pl : Int) : PS := if aro W < 8 then (n, (d, so, pr, cm), x :: W, c1, c, T, (0, pl)) else (n, (du, so, pr, cm), W, c1, c, T, (3, s))
def nks (so v : Int) : Bool := if so = 0 then decide (0 ≤ v ∧ v ≤ 8) else if so = 1 then decide (8 ≤ v ∧ v ≤ 12) else decide (13 ≤ v ∧ v ≤ 20)
def tOne (k v s : Int) (n : Nat) (du so pr cm : Int) (W c1 c : List Int) (T : List Cl) (pl : Int) : PS :=
  if k = 0 then nest s n 0 2 du so pr cm W c1 c T pl
  else if k = 11 then nest s n 14 2 du so pr cm W c1 c T pl
  else if k = 3 ∧ du = 1 then nest s n 3 1 du so pr cm W c1 c T pl
  else if k = 19 then (if nks so v = true then (n, (3, so, pr, cm), W, c1, c ++ [1000 + v], T, (0, pl)) else (n, (du, so, pr, cm), W, c1, c, T, (4, s)))
  else if k = 20 then (if v ≤ 999 then (n, (3, so, pr, cm), W, c1, c ++ [v], T, (0, pl)) else (n, (du, so, pr, cm), W, c1, c, T, (2, s)))
  else (n, (du, so, pr, cm), W, c1, c, T, (1, s))
def tBeh (k s : Int) (n : Nat) (du so pr cm : Int) (W c1 c : List Int) (T : List Cl) (pl : Int) : PS :=
  if 10 ≤ k ∧ k ≤ 13 then (n, (2, so, pr, cm), k :: (rel (if 11 < k then 6 else 5) W c).1, c1, (rel (if 11 < k then 6 else 5) W c).2, T, (0, pl))
  else if k = 15 ∧ par W ≠ 0 then (n, (3, so, pr, cm), (rel 1 W c).1.tail, c1, (rel 1 W c).2, T, (0, pl))
  else if (4 ≤ k ∧ k ≤ 9) ∧ par W = 0 ∧ pr = 0 ∧ cm = 0 then (n, (2, so, pr, 1), k :: (rel 5 W c).1, c1, (rel 5 W c).2, T, (0, pl))
  else if (k = 1 ∨ k = 2) ∧ par W = 0 ∧ pr = 0 ∧ cm ≠ 0 then (n, (1, so, pr, 0), k :: (rel k W c).1, c1, (rel k W c).2, T, (0, pl))
  else if k = 17 ∧ par W = 0 ∧ pr ≠ 0 then (n, (1, so, 0, cm), (rel 1 W c).1, (rel 1 W c).2, [], T, (0, pl))
  else if k = 16 ∧ par W = 0 ∧ pr = 0 ∧ cm ≠ 0 then (n, (0, so, pr, cm), (rel 1 W c).1, [], [], T ++ [(so, c1, (rel 1 W c).2)], (0, pl))
  else (n, (du, so, pr, cm), W, c1, c, T, (1, s))
def ptk (k v s : Int) (n : Nat) (du so pr cm : Int) (W c1 c : List Int) (T : List Cl) (pl : Int) : PS :=
  if du = 0 then tSort k v s n du so pr cm W c1 c T pl
  else if du = 3 then tBeh k s n du so pr cm W c1 c T pl
  else tOne k v s n du so pr cm W c1 c T pl
def pstep (f : Nat → Int) (L : Nat) : PS → PS
  | (p, (du, so, pr, cm), W, c1, c, T, (fa, pl)) => if fa = 0 ∧ du ≠ 4 then ptk (tk f L (ts f L p)) (tvl f L (ts f L p)) (ts f L p : Int) (tnx f L (ts f L p)) du so pr cm W c1 c T pl else (p, (du, so, pr, cm), W, c1, c, T, (fa, pl))
def flat : List Cl → List Int
  | [] => []
  | c :: T => c.2.1 ++ (c.2.2 ++ flat T)
theorem flat_ap : ∀ (T U : List Cl), flat (T ++ U) = flat T ++ flat U
  | [], U => rfl
  | c :: T, U => by
    show c.2.1 ++ (c.2.2 ++ flat (T ++ U)) = (c.2.1 ++ (c.2.2 ++ flat T)) ++ flat U
    rw [flat_ap T U, List.append_assoc, List.append_assoc]
/-! facts on release -/
theorem zLv_c : ∀ n : Nat, n < 15 → (n = 0 ∧ zLv n = 0) ∨ (n = 1 ∧ zLv n = 1) ∨ (n = 2 ∧ zLv n = 2) ∨ (n = 3 ∧ zLv n = 3) ∨ (4 ≤ n ∧ n ≤ 9 ∧ zLv n = 4) ∨ ((n = 10 ∨ n = 11) ∧ zLv n = 5) ∨ ((n = 12 ∨ n = 13) ∧ zLv n = 6) ∨ (n = 14 ∧ zLv n = 7) := by decide
theorem zLvI {a : Int} (h : 0 ≤ a ∧ a < 15) : (a = 0 ∧ zLv a.toNat = 0) ∨ (a = 1 ∧ zLv a.toNat = 1) ∨ (a = 2 ∧ zLv a.toNat = 2) ∨ (a = 3 ∧ zLv a.toNat = 3) ∨ ((4 ≤ a ∧ a ≤ 9) ∧ zLv a.toNat = 4) ∨ ((a = 10 ∨ a = 11) ∧ zLv a.toNat = 5) ∨ ((a = 12 ∨ a = 13) ∧ zLv a.toNat = 6) ∨ (a = 14 ∧ zLv a.toNat = 7) := by
  have := zLv_c a.toNat (by omega)
  omega
theorem rel_in (l : Int) : ∀ (W c : List Int), inW W → inW (rel l W c).1
  | [], c, h => h
  | a :: W, c, h => by
    unfold rel
    split
    · exact rel_in l W _ (fun x hx => h x (List.mem_cons_of_mem _ hx))
    · exact h
theorem rel_len (l : Int) : ∀ (W c : List Int), (rel l W c).1.length + (rel l W c).2.length = W.length + c.length
  | [], c => rfl
  | a :: W, c => by
    unfold rel
    split
    · have := rel_len l W (c ++ [2000 + a])
      simp only [List.length_append, List.length_cons, List.length_nil] at this ⊢
      omega
    · rfl
theorem rel_par (l : Int) (hl : 1 ≤ l) : ∀ (W c : List Int), inW W → par (rel l W c).1 = par W
  | [], c, h => rfl
  | a :: W, c, h => by
    have hz := zLvI (h a (List.mem_cons_self ..))
    unfold rel
    split
    · rw [rel_par l hl W _ (fun x hx => h x (List.mem_cons_of_mem _ hx))]
      show par W = if a = 0 then par W + 1 else par W
      rw [if_neg (by omega)]
    · rfl
theorem rel_grow (l : Int) : ∀ (W c : List Int), ∃ e, (rel l W c).2 = c ++ e
  | [], c => ⟨[], by rw [List.append_nil]; rfl⟩
  | a :: W, c => by
    unfold rel
    split
    · obtain ⟨e, he⟩ := rel_grow l W (c ++ [2000 + a])
      exact ⟨[2000 + a] ++ e, by rw [he, List.append_assoc]⟩
    · exact ⟨[], by rw [List.append_nil]⟩
theorem rel_pre (l : Int) (X : List Int) : ∀ (W c : List Int), (rel l W (X ++ c)).1 = (rel l W c).1 ∧ (rel l W (X ++ c)).2 = X ++ (rel l W c).2
  | [], c => ⟨rfl, rfl⟩
  | a :: W, c => by
    unfold rel
    split
    · rw [List.append_assoc]
      exact rel_pre l X W (c ++ [2000 + a])
    · exact ⟨rfl, rfl⟩
/-- with a parenthesis open, release stops at it -/
theorem rel_shut : ∀ (W c : List Int), inW W → par W ≠ 0 → ∃ W', (rel 1 W c).1 = 0 :: W'
  | [], c, h, hp => absurd rfl hp
  | a :: W, c, h, hp => by
    have hz := zLvI (h a (List.mem_cons_self ..))
    unfold rel
    by_cases z : a = 0
    · rw [if_neg (by omega), z]
      exact ⟨W, rfl⟩
    · rw [if_pos (by omega)]
      refine rel_shut W _ (fun x hx => h x (List.mem_cons_of_mem _ hx)) ?_
      have e : par (a :: W) = if a = 0 then par W + 1 else par W := rfl
      rw [e, if_neg z] at hp
      exact hp
theorem rel_all : ∀ (W c : List Int), inW W → par W = 0 → (rel 1 W c).1 = []
  | [], c, h, hp => rfl
  | a :: W, c, h, hp => by
    have hz := zLvI (h a (List.mem_cons_self ..))
    have e : par (a :: W) = if a = 0 then par W + 1 else par W := rfl
    unfold rel
    by_cases z : a = 0
    · rw [e, if_pos z] at hp; omega
    · rw [if_pos (by omega)]
      rw [e, if_neg z] at hp
      exact rel_all W _ (fun x hx => h x (List.mem_cons_of_mem _ hx)) hp
/-! the class's code and stack -/
theorem sg_ap {f : Nat → Int} : ∀ (l : List Int) (i : Nat) (x : Int), sg f i l → f (i + l.length) = x → sg f i (l ++ [x])
  | [], i, x, _, h2 => ⟨h2, trivial⟩
  | a :: l, i, x, h1, h2 => ⟨h1.1, sg_ap l (i + 1) x h1.2 (by rw [← h2]; congr 1; simp only [List.length_cons]; omega)⟩
theorem sg_split {f : Nat → Int} : ∀ (l r : List Int) (i : Nat), sg f i (l ++ r) → sg f i l ∧ sg f (i + l.length) r
  | [], r, i, h => ⟨trivial, h⟩
  | a :: l, r, i, h => by
    have ih := sg_split l r (i + 1) h.2
    refine ⟨⟨h.1, ih.1⟩, ?_⟩
    have := ih.2
    rw [show i + 1 + l.length = i + (a :: l).length by simp only [List.length_cons]; omega] at this
    exact this
def KCo (σ : Zm) (R : Nat) (C : List Int) : Prop := zrd σ R 6 = (C.length : Int) ∧ sg (zrd σ (R + 1)) 0 C
def KWo (σ : Zm) (W : List Int) : Prop := zrd σ 150 13 = (W.length : Int) ∧ zrd σ 150 14 = (par W : Int) ∧ zrd σ 150 15 = (aro W : Int) ∧ sk (zrd σ 152) W
def eR (R q : Nat) : Prop := q = R ∨ q = R + 1
theorem qU_emit {R : Nat} (hR : ru R) {C : List Int} {x : Int} (σ : Zm) (hC : KCo σ R C) (hl : C.length < 300) (hx : 0 ≤ x ∧ x < 3000) : ∃ σ', fU_emit σ R x = some (0, σ') ∧ zfo (eR R) σ σ' ∧ KCo σ' R (C ++ [x]) ∧ ∀ k, k ≠ 6 → zrd σ' R k = zrd σ R k := by
  have hz : zwp (fU_emit σ R x) (fun r σ' => r = 0 ∧ zfo (eR R) σ σ' ∧ KCo σ' R (C ++ [x]) ∧ ∀ k, k ≠ 6 → zrd σ' R k = zrd σ R k) := by
    unfold fU_emit
    simp only [zwp_let]
    rw [hC.1, if_neg (by omega), zwp_let, zckj (by omega) (by omega), Int.toNat_natCast]
    refine zwp_st (fun σ1 f1 e1 => ?_)
    rw [zwp_let, f1.rd (oO_ne (by omega)), hC.1]
    refine zwp_st (fun σ2 f2 e2 => ?_)
    rw [zwp_some]
    refine ⟨rfl, (f1.mono (fun q z => Or.inr z)).tr (f2.mono (fun q z => Or.inl z)), ⟨?_, ?_⟩, fun k hk => ?_⟩
    · rw [e2, if_pos rfl, zwj (by omega) (by omega)]
      simp
    · refine sg_ap C 0 x (sg_cg C 0 (fun k h1 h2 => ?_) hC.2) ?_
      · rw [f2.rd (oO_ne (by omega)), e1, if_neg (by omega)]
      · rw [f2.rd (oO_ne (by omega)), e1, if_pos (by omega), zwj (by omega) (by omega)]
    · rw [e2, if_neg hk, f1.rd (oO_ne (by omega))]
  obtain ⟨r, σ', h1, h2, h3⟩ := hz
  exact ⟨σ', by rw [h1, h2], h3⟩
def wR (R q : Nat) : Prop := q = R ∨ q = R + 1 ∨ q = 150
/-- only the counts 13 and 15 of the reader, and 6 of the text, differ -/
def WR (R : Nat) (σ σ' : Zm) : Prop := zfo (wR R) σ σ' ∧ (∀ k, k ≠ 13 → k ≠ 15 → zrd σ' 150 k = zrd σ 150 k) ∧ ∀ k, k ≠ 6 → zrd σ' R k = zrd σ R k
theorem WR.rf {R : Nat} {σ : Zm} : WR R σ σ := ⟨zfo.rf, fun _ _ _ => rfl, fun _ _ => rfl⟩
theorem WR.tr {R : Nat} {σ σ1 σ2 : Zm} (h : WR R σ σ1) (h2 : WR R σ1 σ2) : WR R σ σ2 := ⟨h.1.tr h2.1, fun k a b => (h2.2.1 k a b).trans (h.2.1 k a b), fun k a => (h2.2.2 k a).trans (h.2.2 k a)⟩
theorem pR_release_7 {R : Nat} (hR : ru R) (l : Int) (hl : 1 ≤ l) (X : List Int) : ∀ (W : List Int) (c : List Int) (m : Nat) (σ : Zm), W.length < m → inW W → X.length + c.length + W.length ≤ 300 → KCo σ R (X ++ c) → KWo σ W → zwp (fR_release_7 m R l ((W.length : Int) - 1) σ) (fun _ σ' => WR R σ σ' ∧ KCo σ' R (X ++ (rel l W c).2) ∧ KWo σ' (rel l W c).1)
  | [], c, m + 1, σ, _, hW, hb, hC, hK => by
    rw [fR_release_7]
    simp only [zwp_let]
    rw [if_pos (by simp), zwp_some]
    exact ⟨WR.rf, hC, hK⟩
  | a :: W, c, m + 1, σ, hm, hW, hb, hC, hK => by
    simp only [List.length_cons] at hm hb
    have ha := hW a (List.mem_cons_self ..)
    have hz := zLvI ha
    have hW' : inW W := fun x hx => hW x (List.mem_cons_of_mem _ hx)
    obtain ⟨k1, k2, k3, k4⟩ := hK
    have e1 : ((a :: W).length : Int) - 1 = (W.length : Int) := by simp
    have ep : (par (a :: W) : Int) = if a = 0 then (par W : Int) + 1 else (par W : Int) := by
      show ((if a = 0 then par W + 1 else par W : Nat) : Int) = _
      split <;> simp
    have ea : (aro (a :: W) : Int) = if a = 0 ∨ a = 3 ∨ a = 14 then (aro W : Int) + 1 else (aro W : Int) := by
      show ((if a = 0 ∨ a = 3 ∨ a = 14 then aro W + 1 else aro W : Nat) : Int) = _
      split <;> simp
    rw [fR_release_7, e1]
    simp only [zwp_let]
    rw [if_neg (by omega), zckj (by omega) (by omega), zwp_let, Int.toNat_natCast, k4.1, zckj (by omega) (by omega), zwp_let]
    unfold rel
    by_cases c1 : l ≤ zLv a.toNat
    · rw [if_pos c1, if_pos c1]
      have fin : ∀ σ1, WR R σ σ1 → KCo σ1 R (X ++ c) → (∀ k, zrd σ1 152 k = zrd σ 152 k) → zrd σ1 150 14 = (par W : Int) → zrd σ1 150 15 = (aro W : Int) → zwp (fR_release_53 (fun (o1 : Nat) (x2 : Int) (x3 : Int) (σ : Zm) => fR_release_7 m o1 x2 x3 σ) R l (W.length : Int) a σ1) (fun _ σ' => WR R σ σ' ∧ KCo σ' R (X ++ (rel l W (c ++ [2000 + a])).2) ∧ KWo σ' (rel l W (c ++ [2000 + a])).1) := by
        intro σ1 w1 hC1 h152 h14 h15
        unfold fR_release_53
        obtain ⟨σ2, g1, g2, g3, g4⟩ := qU_emit hR (x := 2000 + a) σ1 hC1 (by simp only [List.length_append]; omega) (by omega)
        rw [show zw (2000 + a) = 2000 + a from zwj (by omega) (by omega), zbv_eq g1]
        have w2 : WR R σ1 σ2 := ⟨g2.mono (fun q z => by unfold eR at z; unfold wR; omega), fun k _ _ => g2.rd (by unfold eR; have := hR.1; omega) k, g4⟩
        refine zwp_st (fun σ3 f3 e3 => ?_)
        have w3 : WR R σ2 σ3 := ⟨f3.mono (fun q z => Or.inr (Or.inr z)), fun k h1 _ => by rw [e3, if_neg h1], fun k _ => f3.rd (oO_ne (by have := hR.1; omega)) k⟩
        have hC3 : KCo σ3 R (X ++ (c ++ [2000 + a])) := by
          rw [← List.append_assoc]
          refine ⟨by rw [f3.rd (oO_ne (by have := hR.1; omega))]; exact g3.1, sg_cg _ _ (fun k _ _ => (f3.rd (oO_ne (by have := hR.1; omega)) k).symm) g3.2⟩
        have hK3 : KWo σ3 W := by
          refine ⟨?_, ?_, ?_, sk_cg W (fun k hk => ?_) k4.2⟩
          · rw [e3, if_pos rfl, zwj (by omega) (by omega)]
          · rw [e3, if_neg (by decide), w2.2.1 14 (by decide) (by decide), h14]
          · rw [e3, if_neg (by decide), g2.rd (by unfold eR; have := hR.1; omega), h15]
          · rw [f3.rd (oO_ne (by decide)), g2.rd (by unfold eR; have := hR.1; omega), h152]
        have e2 : zw ((W.length : Int) + -1) = (W.length : Int) - 1 := zwj (by omega) (by omega)
        rw [e2]
        refine zwp_mono (pR_release_7 hR l hl X W (c ++ [2000 + a]) m σ3 (by omega) hW' (by simp only [List.length_append, List.length_cons, List.length_nil]; omega) hC3 hK3) (fun _ σ4 ⟨q1, q2, q3⟩ => ⟨((w1.tr w2).tr w3).tr q1, q2, q3⟩)
      rw [if_neg (by omega)] at ep
      have go43 : (a = 3 ∨ a = 14) → zwp (fR_release_43 (fun (o1 : Nat) (x2 : Int) (x3 : Int) (σ : Zm) => fR_release_7 m o1 x2 x3 σ) R l (W.length : Int) a σ) (fun _ σ' => WR R σ σ' ∧ KCo σ' R (X ++ (rel l W (c ++ [2000 + a])).2) ∧ KWo σ' (rel l W (c ++ [2000 + a])).1) := by
        intro hc
        rw [if_pos (by omega)] at ea
        have haW : aro (a :: W) ≤ 2000 := by
          have hla : ∀ V : List Int, aro V ≤ V.length := by
            intro V
            induction V with
            | nil => exact Nat.le_refl _
            | cons b V ih =>
              show (if b = 0 ∨ b = 3 ∨ b = 14 then aro V + 1 else aro V) ≤ V.length + 1
              split <;> omega
          have := hla (a :: W)
          simp only [List.length_cons] at this
          omega
        unfold fR_release_43
        rw [zwp_let, k3]
        refine zwp_st (fun σ1 f1 g1 => ?_)
        refine fin σ1 ⟨f1.mono (fun q z => Or.inr (Or.inr z)), fun k _ h2 => by rw [g1, if_neg h2], fun k _ => f1.rd (oO_ne (by have := hR.1; omega)) k⟩ ⟨by rw [f1.rd (oO_ne (by have := hR.1; omega))]; exact hC.1, sg_cg _ _ (fun k _ _ => (f1.rd (oO_ne (by have := hR.1; omega)) k).symm) hC.2⟩ (fun k => f1.rd (oO_ne (by decide)) k) ?_ ?_
        · rw [g1, if_neg (by decide), k2, ep]
        · rw [g1, if_pos rfl, zwj (by omega) (by omega)]; omega
      by_cases c2 : a = 3
      · rw [if_pos c2]
        exact go43 (Or.inl c2)
      · rw [if_neg c2]
        by_cases c3 : a = 14
        · rw [ifnn c3]
          exact go43 (Or.inr c3)
        · rw [if_pos c3]
          rw [if_neg (by omega)] at ea
          exact fin σ WR.rf hC (fun _ => rfl) (by rw [k2, ep]) (by rw [k3, ea])
    · rw [if_neg c1, if_neg c1, zwp_some]
      exact ⟨WR.rf, hC, ⟨k1, k2, k3, k4⟩⟩
theorem qR_release {R : Nat} (hR : ru R) (l : Int) (hl : 1 ≤ l) (X W c : List Int) (σ : Zm) (hW : inW W) (hb : X.length + c.length + W.length ≤ 300) (hC : KCo σ R (X ++ c)) (hK : KWo σ W) : zwp (fR_release σ R l) (fun _ σ' => WR R σ σ' ∧ KCo σ' R (X ++ (rel l W c).2) ∧ KWo σ' (rel l W c).1) := by
  unfold fR_release
  simp only [zwp_let]
  rw [hK.1, show zw ((W.length : Int) - 1) = (W.length : Int) - 1 from zwj (by omega) (by omega)]
  exact pR_release_7 hR l hl X W c 5000 σ (by omega) hW hb hC hK
def hR0 (q : Nat) : Prop := q = 150 ∨ q = 152
/-- an operator goes on the stack -/
theorem qR_hold {x : Int} {W : List Int} (σ : Zm) (hx : 0 ≤ x ∧ x < 15) (hb : W.length < 300) (h13 : zrd σ 150 13 = (W.length : Int)) (hs : sk (zrd σ 152) W) : ∃ σ', fR_hold σ x = some (0, σ') ∧ zfo hR0 σ σ' ∧ (∀ k, k ≠ 13 → zrd σ' 150 k = zrd σ 150 k) ∧ zrd σ' 150 13 = ((x :: W).length : Int) ∧ sk (zrd σ' 152) (x :: W) := by
  have hz : zwp (fR_hold σ x) (fun r σ' => r = 0 ∧ zfo hR0 σ σ' ∧ (∀ k, k ≠ 13 → zrd σ' 150 k = zrd σ 150 k) ∧ zrd σ' 150 13 = ((x :: W).length : Int) ∧ sk (zrd σ' 152) (x :: W)) := by
    unfold fR_hold
    simp only [zwp_let]
    rw [h13, if_neg (by omega), zwp_let, zckj (by omega) (by omega), Int.toNat_natCast]
    refine zwp_st (fun σ1 f1 e1 => ?_)
    rw [zwp_let, f1.rd (oO_ne (by decide)), h13]
    refine zwp_st (fun σ2 f2 e2 => ?_)
    rw [zwp_some]
    refine ⟨rfl, (f1.mono (fun q z => Or.inr z)).tr (f2.mono (fun q z => Or.inl z)), fun k hk => ?_, ?_, ?_, ?_⟩
    · rw [e2, if_neg hk, f1.rd (oO_ne (by decide))]
    · rw [e2, if_pos rfl, zwj (by omega) (by omega)]; simp
    · rw [f2.rd (oO_ne (by decide)), e1, if_pos rfl, zwj (by omega) (by omega)]
    · refine sk_cg W (fun k hk => ?_) hs
      rw [f2.rd (oO_ne (by decide)), e1, if_neg (by omega)]
  obtain ⟨r, σ', h1, h2, h3⟩ := hz
  exact ⟨σ', by rw [h1, h2], h3⟩

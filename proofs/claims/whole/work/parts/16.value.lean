/-! MY OWN: the class's value over a clause's code -/
/-- a stack of f's places holds these, the last on top first -/
def sk (f : Nat → Int) : List Int → Prop
  | [] => True
  | x :: S => f S.length = x ∧ sk f S
theorem sk_cg {f g : Nat → Int} : ∀ (S : List Int), (∀ k, k < S.length → f k = g k) → sk f S → sk g S
  | [], _, _ => trivial
  | x :: S, h, hs => by
    refine ⟨?_, sk_cg S (fun k hk => h k (by simp; omega)) hs.2⟩
    rw [← h S.length (by simp)]
    exact hs.1
theorem sk_push {σ : Zm} {o : Nat} {S : List Int} {v x : Int} (h : sk (zrd σ o) S) (hx : zw v = x) : sk (zrd (zst σ o S.length v) o) (x :: S) := by
  refine ⟨?_, ?_⟩
  · rw [zrd_st, if_pos ⟨rfl, rfl⟩, hx]
  · refine sk_cg S (fun k hk => ?_) h
    rw [zrd_st, if_neg (fun q => by omega)]
/-- a row of code lies at i -/
def sg (f : Nat → Int) : Nat → List Int → Prop
  | _, [] => True
  | i, c :: l => f i = c ∧ sg f (i + 1) l
theorem sg_cg {f g : Nat → Int} : ∀ (l : List Int) (i : Nat), (∀ k, i ≤ k → k < i + l.length → f k = g k) → sg f i l → sg g i l
  | [], _, _, _ => trivial
  | x :: S, i, h, hs => by
    refine ⟨?_, sg_cg S (i + 1) (fun k hk hk2 => h k (by omega) (by simp; omega)) hs.2⟩
    rw [← h i (by omega) (by simp)]
    exact hs.1
def oJ2 (J : Nat) : Nat → Prop := fun q => q = J + 2
theorem ifnn {α : Type} {c : Prop} {dc : Decidable (¬ c)} {a b : α} (h : c) : (if ¬ c then a else b) = b := if_neg (fun q => q h)
theorem pJ_value_10 {J o1 : Nat} (hLo : zLN o1 = 300) (hd1 : o1 ≠ J + 2) (E : Nat → Int) (hE : ∀ k, -1000000 ≤ E k ∧ E k ≤ 1000000) (to : Nat) (hto : to ≤ 300) (v' t' : Nat) (P : Int → Zm → Prop) (K : Nat → Int → Zm → Zr) (σ0 : Zm) :
    ∀ (l : List Int) (m i : Nat) (σ : Zm) (V T : List Int), l.length < m → i + l.length = to → zfo (oJ2 J) σ0 σ → (∀ c ∈ l, 1000 ≤ c → c < 1021 → zrd σ0 (J + 1) (c - 1000).toNat = E (c - 1000).toNat) → sg (zrd σ0 o1) i l → wt l V.length T.length v' t' → bdv V → bdt T → V.length + T.length ≤ i → sk (zrd σ (J + 2)) (V ++ T) → (∀ σ' V' T', zfo (oJ2 J) σ0 σ' → V'.length = v' → T'.length = t' → sk (zrd σ' (J + 2)) (V' ++ T') → (V', T') = ev E l (V, T) → zwp (K J ((V'.length + T'.length : Nat) : Int) σ') P) → zwp (fJ_value_10 m J o1 (to : Int) ((V.length + T.length : Nat) : Int) (i : Int) σ K) P
  | [], m + 1, i, σ, V, T, _, hi, hf, hN, hs, hw, hV, hT, hle, hsk, hk => by
    rw [fJ_value_10]
    simp only [zwp_let]
    simp only [List.length_nil] at hi
    rw [if_pos (by omega)]
    exact hk σ V T hf hw.1 hw.2 hsk rfl
  | c :: l, m + 1, i, σ, V, T, hm, hi, hf, hN, hs, hw, hV, hT, hle, hsk, hk => by
    simp only [List.length_cons] at hi hm
    obtain ⟨n1, n2, n3⟩ := ev1_wt hE hw hV hT
    have hc : zrd σ o1 i = c := by rw [hf.rd (show ¬ oJ2 J o1 from hd1)]; exact hs.1
    have hcb : zw c = c := by rw [← hc]; exact zw_rd _ _ _
    have hnx : zw ((i : Int) + 1) = ((i + 1 : Nat) : Int) := zwj (by omega) (by omega)
    have go : ∀ (σ1 : Zm), zfo (oJ2 J) σ0 σ1 → sk (zrd σ1 (J + 2)) ((ev1 E c (V, T)).1 ++ (ev1 E c (V, T)).2) → (ev1 E c (V, T)).1.length + (ev1 E c (V, T)).2.length ≤ i + 1 → zwp (fJ_value_10 m J o1 (to : Int) (((ev1 E c (V, T)).1.length + (ev1 E c (V, T)).2.length : Nat) : Int) ((i + 1 : Nat) : Int) σ1 K) P := by
      intro σ1 h1 h2 h3
      exact pJ_value_10 hLo hd1 E hE to hto v' t' P K σ0 l m (i + 1) σ1 _ _ (by omega) (by omega) h1 (fun x hx => hN x (List.mem_cons_of_mem _ hx)) hs.2 n1 n2 n3 h3 h2 hk
    unfold wt at hw
    rw [fJ_value_10]
    simp only [zwp_let]
    rw [if_neg (by omega), if_neg (by omega), if_neg (by omega), zckj (by omega) (by omega), zwp_let, zwp_let, Int.toNat_natCast, hc, hnx]
    rcases hw with ⟨h1, h2, h3⟩ | ⟨h1, h2, h3⟩ | ⟨h1, h2, h3, h4⟩ | ⟨h1, h2, h3, h4⟩ | ⟨h1, h2, h3, h4⟩ | ⟨h1, h2, h3, h4⟩
    · by_cases c1 : c < 1000
      · rw [if_neg (by omega), zckj (by omega) (by omega), zwp_let, Int.toNat_natCast, show zw (((V.length + T.length : Nat) : Int) + 1) = ((V.length + T.length + 1 : Nat) : Int) from zwj (by omega) (by omega)]
        have e : ev1 E c (V, T) = (c :: V, T) := by unfold ev1; rw [if_pos c1]
        rw [e] at go
        have := go (zst σ (J + 2) (V.length + T.length) c) (hf.st rfl) (by rw [← List.length_append]; exact sk_push hsk hcb) (by simp; omega)
        simp only [List.length_cons] at this
        rw [show V.length + 1 + T.length = V.length + T.length + 1 by omega] at this
        exact this
      · rw [if_pos (by omega), if_neg (by rw [zwj (by omega) (by omega)]; omega), zwp_let, zwj (a := c - 1000) (by omega) (by omega), if_neg (by omega), zckj (by omega) (by omega), zwp_let, zckj (by omega) (by omega), zwp_let, Int.toNat_natCast, show zw (((V.length + T.length : Nat) : Int) + 1) = ((V.length + T.length + 1 : Nat) : Int) from zwj (by omega) (by omega)]
        have e : ev1 E c (V, T) = (E (c - 1000).toNat :: V, T) := by unfold ev1; rw [if_neg c1, if_pos (by omega)]
        have e2 : zrd σ (J + 1) (c - 1000).toNat = E (c - 1000).toNat := by rw [hf.rd (show ¬ oJ2 J (J + 1) by unfold oJ2; omega)]; exact hN c List.mem_cons_self (by omega) (by omega)
        rw [e] at go
        rw [e2]
        have hb := hE (c - 1000).toNat
        have := go (zst σ (J + 2) (V.length + T.length) (E (c - 1000).toNat)) (hf.st rfl) (by rw [← List.length_append]; exact sk_push hsk (zwj (by omega) (by omega))) (by simp; omega)
        simp only [List.length_cons] at this
        rw [show V.length + 1 + T.length = V.length + T.length + 1 by omega] at this
        exact this
    · have hcc : zw (c - 2000) = 14 := by rw [h1]; decide
      rw [if_pos (by omega), hcc, if_pos (by decide), if_neg (by decide), ifnn (by first | trivial | rfl)]
      unfold fJ_value_127
      match V, h2, hV, hsk, hle, go with
      | x :: V, h2, hV, hsk, hle, go =>
        have hb := hV x (by simp)
        have e : ev1 E c (x :: V, T) = (-x :: V, T) := by unfold ev1; rw [if_neg (by omega), if_neg (by omega), if_pos h1]
        rw [e] at go
        simp only [List.length_cons] at hle go ⊢
        have e5 : zw (((V.length + 1 + T.length : Nat) : Int) - 1) = ((V.length + T.length : Nat) : Int) := by rw [zwj (by omega) (by omega)]; omega
        rw [if_pos (by omega), if_pos (by decide), e5, zckj (by omega) (by omega), zwp_let, zckj (by omega) (by omega), zwp_let, Int.toNat_natCast, hnx]
        have e6 : zrd σ (J + 2) (V.length + T.length) = x := by
          have hsk' : sk (zrd σ (J + 2)) (x :: (V ++ T)) := hsk
          have := hsk'.1
          rw [List.length_append] at this
          exact this
        rw [e6]
        refine go _ (hf.st rfl) ?_ (by omega)
        have := sk_push (v := -x) (x := -x) (S := V ++ T) hsk.2 (zwj (by omega) (by omega))
        rw [List.length_append] at this
        exact this
    · have hcc : zw (c - 2000) = c - 2000 := zwj (by omega) (by omega)
      rw [if_pos (by omega), hcc, if_pos (by omega), if_neg (by omega), if_pos (by omega)]
      match V, h3, hV, hsk, hle, go with
      | y :: x :: V, h3, hV, hsk, hle, go =>
        have hbx := hV x (by simp)
        have hby := hV y (by simp)
        have e : ev1 E c (y :: x :: V, T) = (ar c x y :: V, T) := by unfold ev1; rw [if_neg (by omega), if_neg (by omega), if_neg (by omega), if_pos (by omega)]
        rw [e] at go
        simp only [List.length_cons] at hle go ⊢
        have e4 : zw (((V.length + 1 + 1 + T.length : Nat) : Int) + (-1)) = ((V.length + 1 + T.length : Nat) : Int) := by rw [zwj (by omega) (by omega)]; omega
        have e5 : zw ((((V.length + 1 + 1 + T.length : Nat) : Int) + (-1)) - 1) = ((V.length + T.length : Nat) : Int) := by rw [zwj (by omega) (by omega)]; omega
        have ey : zrd σ (J + 2) (V.length + 1 + T.length) = y := by
          have hsk' : sk (zrd σ (J + 2)) (y :: x :: (V ++ T)) := hsk
          have := hsk'.1
          simp only [List.length_cons, List.length_append] at this
          rw [show V.length + 1 + T.length = V.length + T.length + 1 by omega]
          exact this
        have ex : zrd σ (J + 2) (V.length + T.length) = x := by
          have hsk' : sk (zrd σ (J + 2)) (y :: x :: (V ++ T)) := hsk
          have := hsk'.2.1
          rw [List.length_append] at this
          exact this
        obtain ⟨z, z1, z2, z3, z4⟩ := pJ_combine_ar σ c x y (by omega) hbx hby
        rw [if_pos (by omega), e4, e5, zckj (by omega) (by omega), zwp_let, zckj (by omega) (by omega), zwp_let, Int.toNat_natCast, Int.toNat_natCast, ey, ex, z1, zbl_some, zx_id (by omega) (by omega)]
        obtain ⟨q1, -, -, -, -⟩ := zlc_le (a := z) (b := 1000000) (by omega) (by omega)
        obtain ⟨-, q2, -, -, -⟩ := zlc_le (a := z) (b := -1000000) (by omega) (by omega)
        have fin : ∀ w : Int, w = ar c x y → zwp (fJ_value_10 m J o1 (to : Int) ((V.length + 1 + T.length : Nat) : Int) ((i + 1 : Nat) : Int) (zst σ (J + 2) (V.length + T.length) w) K) P := by
          intro w hw
          refine go _ (hf.st rfl) ?_ (by omega)
          have hb := ar_bd c x y
          have := sk_push (v := w) (x := ar c x y) (S := V ++ T) hsk.2.2 (by rw [hw]; exact zwj (by omega) (by omega))
          rw [List.length_append] at this
          exact this
        unfold cl at z4
        by_cases d1 : 1000000 < z
        · rw [if_neg (fun q => by have := q1.mp q; omega), zckj (by omega) (by omega), zwp_let]
          rw [if_pos d1] at z4
          exact fin _ z4
        · rw [if_pos (q1.mpr (by omega))]
          rw [if_neg d1] at z4
          by_cases d2 : z < -1000000
          · rw [if_neg (fun q => by have := q2.mp q; omega), zckj (by omega) (by omega), zwp_let]
            rw [if_pos d2] at z4
            exact fin _ z4
          · rw [if_pos (q2.mpr (by omega)), zckj (by omega) (by omega), zwp_let]
            rw [if_neg d2] at z4
            exact fin _ z4
    · have hcc : zw (c - 2000) = c - 2000 := zwj (by omega) (by omega)
      rw [if_pos (by omega), hcc, if_pos (by omega), if_neg (by omega), if_pos (by omega)]
      match V, h3, hV, hsk, hle, go with
      | [y, x], h3, hV, hsk, hle, go =>
        have hbx := hV x (by simp)
        have hby := hV y (by simp)
        have e : ev1 E c ([y, x], T) = ([], cm c x y :: T) := by unfold ev1; rw [if_neg (by omega), if_neg (by omega), if_neg (by omega), if_neg (by omega), if_pos (by omega)]
        rw [e] at go
        simp only [List.length_cons, List.length_nil] at hle go ⊢
        have e4 : zw (((0 + 1 + 1 + T.length : Nat) : Int) + (-1)) = ((0 + (T.length + 1) : Nat) : Int) := by rw [zwj (by omega) (by omega)]; omega
        have e5 : zw ((((0 + 1 + 1 + T.length : Nat) : Int) + (-1)) - 1) = ((T.length : Nat) : Int) := by rw [zwj (by omega) (by omega)]; omega
        have ey : zrd σ (J + 2) (0 + (T.length + 1)) = y := by
          have hsk' : sk (zrd σ (J + 2)) (y :: x :: T) := hsk
          have := hsk'.1
          simp only [List.length_cons] at this
          rw [Nat.zero_add]
          exact this
        have ex : zrd σ (J + 2) T.length = x := hsk.2.1
        have hcb := cm_01 c x y
        rw [if_pos (by omega), e4, e5, zckj (by omega) (by omega), zwp_let, zckj (by omega) (by omega), zwp_let, Int.toNat_natCast, Int.toNat_natCast, ey, ex, pJ_combine_cm σ c x y (by omega) hbx hby, zbl_some, zx_id (by omega) (by omega)]
        obtain ⟨q1, -, -, -, -⟩ := zlc_le (a := cm c x y) (b := 1000000) (by omega) (by omega)
        obtain ⟨-, q2, -, -, -⟩ := zlc_le (a := cm c x y) (b := -1000000) (by omega) (by omega)
        rw [if_pos (q1.mpr (by omega)), if_pos (q2.mpr (by omega)), zckj (by omega) (by omega), zwp_let]
        refine go _ (hf.st rfl) ?_ (by omega)
        exact sk_push (S := T) hsk.2.2 (zwj (by omega) (by omega))
    · have hcc : zw (c - 2000) = 3 := by rw [h1]; decide
      rw [if_pos (by omega), hcc, if_pos (by decide), if_pos rfl]
      unfold fJ_value_127
      match T, h3, hT, hsk, hle, go with
      | b :: T, h3, hT, hsk, hle, go =>
        have hb := hT b (by simp)
        have hV0 : V = [] := List.length_eq_zero_iff.mp h2
        subst hV0
        have e : ev1 E c ([], b :: T) = ([], (1 - b) :: T) := by unfold ev1; rw [if_neg (by omega), if_neg (by omega), if_neg (by omega), if_neg (by omega), if_neg (by omega), if_pos h1]
        rw [e] at go
        simp only [List.length_cons, List.length_nil, List.nil_append] at hle go hsk ⊢
        have e5 : zw (((0 + (T.length + 1) : Nat) : Int) - 1) = ((T.length : Nat) : Int) := by rw [zwj (by omega) (by omega)]; omega
        rw [if_pos (by omega), ifnn (by first | trivial | rfl), e5, zckj (by omega) (by omega), zwp_let, zckj (by omega) (by omega), zwp_let, Int.toNat_natCast, hnx, hsk.1]
        refine go _ (hf.st rfl) ?_ (by omega)
        exact sk_push (S := T) hsk.2 (zwj (by omega) (by omega))
    · have hcc : zw (c - 2000) = c - 2000 := zwj (by omega) (by omega)
      rw [if_pos (by omega), hcc, if_pos (by omega), if_neg (by omega), if_pos (by omega)]
      match T, h3, hT, hsk, hle, go with
      | b :: a :: T, h3, hT, hsk, hle, go =>
        have hba := hT a (by simp)
        have hbb := hT b (by simp)
        have hV0 : V = [] := List.length_eq_zero_iff.mp h2
        subst hV0
        have e : ev1 E c ([], b :: a :: T) = ([], bo c a b :: T) := by unfold ev1; rw [if_neg (by omega), if_neg (by omega), if_neg (by omega), if_neg (by omega), if_neg (by omega), if_neg (by omega)]
        rw [e] at go
        simp only [List.length_cons, List.length_nil, List.nil_append] at hle go hsk ⊢
        have e4 : zw (((0 + (T.length + 1 + 1) : Nat) : Int) + (-1)) = ((0 + (T.length + 1) : Nat) : Int) := by rw [zwj (by omega) (by omega)]; omega
        have e5 : zw ((((0 + (T.length + 1 + 1) : Nat) : Int) + (-1)) - 1) = ((T.length : Nat) : Int) := by rw [zwj (by omega) (by omega)]; omega
        have ey : zrd σ (J + 2) (0 + (T.length + 1)) = b := by rw [Nat.zero_add]; exact hsk.1
        have ex : zrd σ (J + 2) T.length = a := hsk.2.1
        have hcb := bo_01 c a b
        rw [if_pos (by omega), e4, e5, zckj (by omega) (by omega), zwp_let, zckj (by omega) (by omega), zwp_let, Int.toNat_natCast, Int.toNat_natCast, ey, ex, pJ_combine_bo σ c a b h1 hba hbb, zbl_some, zx_id (by omega) (by omega)]
        obtain ⟨q1, -, -, -, -⟩ := zlc_le (a := bo c a b) (b := 1000000) (by omega) (by omega)
        obtain ⟨-, q2, -, -, -⟩ := zlc_le (a := bo c a b) (b := -1000000) (by omega) (by omega)
        rw [if_pos (q1.mpr (by omega)), if_pos (q2.mpr (by omega)), zckj (by omega) (by omega), zwp_let]
        refine go _ (hf.st rfl) ?_ (by omega)
        exact sk_push (S := T) hsk.2.2 (zwj (by omega) (by omega))

def hd0 : List Int → Int
  | x :: _ => x
  | _ => 0
/-- what a price's, an ask's code comes to -/
def evp (E : Nat → Int) (l : List Int) : Int := hd0 (ev E l ([], [])).1
def evc (E : Nat → Int) (l : List Int) : Int := hd0 (ev E l ([], [])).2
theorem qJ_value_p {J o1 : Nat} (hLo : zLN o1 = 300) (hd1 : o1 ≠ J + 2) (E : Nat → Int) (hE : ∀ k, -1000000 ≤ E k ∧ E k ≤ 1000000) (σ : Zm) (l : List Int) (i : Nat) (hi : i + l.length ≤ 300) (hN : ∀ c ∈ l, 1000 ≤ c → c < 1021 → zrd σ (J + 1) (c - 1000).toNat = E (c - 1000).toNat) (hs : sg (zrd σ o1) i l) (hw : wt l 0 0 1 0) : zwp (fJ_value σ J o1 (i : Int) ((i + l.length : Nat) : Int)) (fun r σ' => zfo (oJ2 J) σ σ' ∧ r = evp E l) := by
  unfold fJ_value
  rw [zwp_let, show max (0 : Int) (i : Int) = (i : Int) by omega]
  refine pJ_value_10 hLo hd1 E hE (i + l.length) hi 1 0 _ _ σ l 5000 i σ [] [] (by omega) rfl zfo.rf hN hs hw (by intro x hx; cases hx) (by intro x hx; cases hx) (by simp) trivial (fun σ' V T hf hV hT hsk he => ?_)
  match V, hV, hsk, he with
  | [x], _, hsk, he =>
    have hT0 : T = [] := List.length_eq_zero_iff.mp hT
    subst hT0
    unfold fJ_value_259
    rw [if_neg (by simp), show (([x].length + ([] : List Int).length : Nat) : Int) - 1 = 0 by rfl, show zw 0 = 0 by decide, zckj (by omega) (by omega), zwp_let, zwp_some]
    refine ⟨hf, ?_⟩
    unfold evp
    rw [← he]
    exact hsk.1
theorem qJ_value_c {J o1 : Nat} (hLo : zLN o1 = 300) (hd1 : o1 ≠ J + 2) (E : Nat → Int) (hE : ∀ k, -1000000 ≤ E k ∧ E k ≤ 1000000) (σ : Zm) (l : List Int) (i : Nat) (hi : i + l.length ≤ 300) (hN : ∀ c ∈ l, 1000 ≤ c → c < 1021 → zrd σ (J + 1) (c - 1000).toNat = E (c - 1000).toNat) (hs : sg (zrd σ o1) i l) (hw : wt l 0 0 0 1) : zwp (fJ_value σ J o1 (i : Int) ((i + l.length : Nat) : Int)) (fun r σ' => zfo (oJ2 J) σ σ' ∧ r = evc E l) := by
  unfold fJ_value
  rw [zwp_let, show max (0 : Int) (i : Int) = (i : Int) by omega]
  refine pJ_value_10 hLo hd1 E hE (i + l.length) hi 0 1 _ _ σ l 5000 i σ [] [] (by omega) rfl zfo.rf hN hs hw (by intro x hx; cases hx) (by intro x hx; cases hx) (by simp) trivial (fun σ' V T hf hV hT hsk he => ?_)
  match T, hT, hsk, he with
  | [x], _, hsk, he =>
    have hV0 : V = [] := List.length_eq_zero_iff.mp hV
    subst hV0
    unfold fJ_value_259
    rw [if_neg (by simp), show ((([] : List Int).length + [x].length : Nat) : Int) - 1 = 0 by rfl, show zw 0 = 0 by decide, zckj (by omega) (by omega), zwp_let, zwp_some]
    refine ⟨hf, ?_⟩
    unfold evc
    rw [← he]
    exact hsk.1
theorem evp_bd {E : Nat → Int} (hE : ∀ k, -1000000 ≤ E k ∧ E k ≤ 1000000) {l : List Int} (hw : wt l 0 0 1 0) : -1000000 ≤ evp E l ∧ evp E l ≤ 1000000 := by
  obtain ⟨h1, h2, h3, h4⟩ := ev_wt hE l [] [] hw (by intro x hx; cases hx) (by intro x hx; cases hx)
  unfold evp
  match (ev E l ([], [])).1, h1, h3 with
  | [x], _, h3 => exact h3 x (by simp)

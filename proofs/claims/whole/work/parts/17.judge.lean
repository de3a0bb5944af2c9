/-! MY OWN: a text as a list of clauses; breaks as lists; the class's Judge -/
abbrev Cl : Type := Int × List Int × List Int
abbrev Bk : Type := Int × Int × Int × Int × Int
def nok (s : Int) (n : Nat) : Prop := if s = 0 then n ≤ 8 else if s = 1 then 8 ≤ n ∧ n ≤ 12 else 13 ≤ n ∧ n ≤ 20
def wfl (s : Int) (l : List Int) : Prop := ∀ c ∈ l, 1000 ≤ c → c < 1021 → nok s (c - 1000).toNat
def WFc (c : Cl) : Prop := (0 ≤ c.1 ∧ c.1 ≤ 3) ∧ (c.1 < 2 → wt c.2.1 0 0 1 0) ∧ wt c.2.2 0 0 0 1 ∧ wfl c.1 c.2.1 ∧ wfl c.1 c.2.2
def WF (T : List Cl) : Prop := ∀ c ∈ T, WFc c
def TRk (σ : Zm) (R k : Nat) (c : Cl) : Prop := zrd σ (R + 2) k = c.1 ∧ ∃ a : Nat, zrd σ (R + 3) k = (a : Int) ∧ zrd σ (R + 4) k = ((a + c.2.1.length : Nat) : Int) ∧ zrd σ (R + 5) k = ((a + c.2.1.length + c.2.2.length : Nat) : Int) ∧ a + c.2.1.length + c.2.2.length ≤ 300 ∧ sg (zrd σ (R + 1)) a c.2.1 ∧ sg (zrd σ (R + 1)) (a + c.2.1.length) c.2.2
def TRl (σ : Zm) (R : Nat) : List Cl → Nat → Prop
  | [], _ => True
  | c :: T, k => TRk σ R k c ∧ TRl σ R T (k + 1)
def TRc (σ : Zm) (R : Nat) (T : List Cl) : Prop := zrd σ R 5 = (T.length : Int) ∧ T.length ≤ 10 ∧ TRl σ R T 0
def prc (E : Nat → Int) (l : List Int) : Int := max 0 (min 999 (evp E l))
def brk (E : Nat → Int) (s : Int) : List Cl → Nat → List (Nat × Int)
  | [], _ => []
  | c :: T, k => if c.1 = s ∧ evc E c.2.2 ≠ 0 then (k, prc E c.2.1) :: brk E s T (k + 1) else brk E s T (k + 1)
def bsum : List (Nat × Int) → Int
  | [] => 0
  | b :: B => b.2 + bsum B
def lsum : List Bk → Int
  | [] => 0
  | b :: B => b.2.2.2.2 + lsum B
def oJ (J : Nat) : Nat → Prop := fun q => q = J ∨ q = J + 1 ∨ q = J + 2 ∨ q = J + 3
def oJc (J : Nat) : Nat → Prop := fun q => q = J ∨ q = J + 2 ∨ q = J + 3
def jl (σ : Zm) (J : Nat) (L : List Bk) : Prop := zrd σ J 5 = zw (L.length : Int) ∧ zrd σ J 6 = zw (lsum L) ∧ ((L.length : Int) < 2147483648 → ∀ (k : Nat) (b : Bk), L[k]? = some b → zrd σ J 4 = (k : Int) → zrd σ (J + 3) 0 = b.1 ∧ zrd σ (J + 3) 1 = b.2.1 ∧ zrd σ (J + 3) 2 = b.2.2.1 ∧ zrd σ (J + 3) 3 = b.2.2.2.1 ∧ zrd σ (J + 3) 4 = b.2.2.2.2)
def jpo (D : Nat → Nat → Prop) (J : Nat) (t : Int) (B : List (Nat × Int)) (σ σ' : Zm) : Prop := zfo (D J) σ σ' ∧ (∀ k, k ≠ 5 → k ≠ 6 → zrd σ' J k = zrd σ J k) ∧ zrd σ' J 6 = zw (zrd σ J 6 + bsum B) ∧ ∀ L, jl σ J L → jl σ' J (L ++ B.map (fun b => (t, zrd σ J 7, zrd σ J 8, (b.1 : Int), b.2)))
theorem jpo.rf {D : Nat → Nat → Prop} {J : Nat} {t : Int} {σ : Zm} : jpo D J t [] σ σ := by
  refine ⟨zfo.rf, fun _ _ _ => rfl, ?_, ?_⟩
  · simp [bsum, zw_rd]
  · intro L h
    simpa using h
theorem bsum_ap : ∀ (A B : List (Nat × Int)), bsum (A ++ B) = bsum A + bsum B
  | [], B => by simp [bsum]
  | a :: A, B => by
    show a.2 + bsum (A ++ B) = a.2 + bsum A + bsum B
    rw [bsum_ap A B]
    omega
theorem lsum_ap : ∀ (A B : List Bk), lsum (A ++ B) = lsum A + lsum B
  | [], B => by simp [lsum]
  | a :: A, B => by
    show a.2.2.2.2 + lsum (A ++ B) = a.2.2.2.2 + lsum A + lsum B
    rw [lsum_ap A B]
    omega
theorem jpo.tr {D : Nat → Nat → Prop} {J : Nat} {t : Int} {A B : List (Nat × Int)} {σ σ1 σ2 : Zm} (h : jpo D J t A σ σ1) (h2 : jpo D J t B σ1 σ2) : jpo D J t (A ++ B) σ σ2 := by
  refine ⟨h.1.tr h2.1, fun k a b => (h2.2.1 k a b).trans (h.2.1 k a b), ?_, ?_⟩
  · rw [h2.2.2.1, h.2.2.1, bsum_ap, zw_addl, Int.add_assoc]
  · intro L hL
    have := h2.2.2.2 _ (h.2.2.2 L hL)
    rw [h.2.1 7 (by decide) (by decide), h.2.1 8 (by decide) (by decide), List.append_assoc, ← List.map_append] at this
    exact this
theorem jpo.mono {D D' : Nat → Nat → Prop} {J : Nat} {t : Int} {A : List (Nat × Int)} {σ σ1 : Zm} (h : jpo D J t A σ σ1) (hd : ∀ q, D J q → D' J q) : jpo D' J t A σ σ1 := ⟨h.1.mono hd, h.2.1, h.2.2⟩
theorem TRk_fo {D : Nat → Prop} {σ σ1 : Zm} {R k : Nat} {c : Cl} (h : zfo D σ σ1) (hD : ∀ j, j < 6 → ¬ D (R + j)) (hT : TRk σ R k c) : TRk σ1 R k c := by
  unfold TRk at *
  have e : zrd σ1 (R + 1) = zrd σ (R + 1) := by funext j; exact h.rd (hD 1 (by decide)) j
  rw [h.rd (hD 2 (by decide)), h.rd (hD 3 (by decide)), h.rd (hD 4 (by decide)), h.rd (hD 5 (by decide)), e]
  exact hT
theorem TRl_fo {D : Nat → Prop} {σ σ1 : Zm} {R : Nat} (h : zfo D σ σ1) (hD : ∀ j, j < 6 → ¬ D (R + j)) : ∀ (T : List Cl) (k : Nat), TRl σ R T k → TRl σ1 R T k
  | [], _, _ => trivial
  | c :: T, k, hT => ⟨TRk_fo h hD hT.1, TRl_fo h hD T (k + 1) hT.2⟩
theorem TRc_fo {D : Nat → Prop} {σ σ1 : Zm} {R : Nat} {T : List Cl} (h : zfo D σ σ1) (hD : ∀ j, j < 6 → ¬ D (R + j)) (hT : TRc σ R T) : TRc σ1 R T := by
  refine ⟨?_, hT.2.1, TRl_fo h hD T 0 hT.2.2⟩
  rw [h.rd (show ¬ D R from hD 0 (by decide))]
  exact hT.1
/-- one break: count and total -/
theorem jadd {J : Nat} {t v w c p : Int} {σ : Zm} {k : Nat} (hk : (k : Int) = c) (hv : v = zrd σ J 7) (hw : w = zrd σ J 8) (σ' : Zm) (hf : zfo (oJc J) σ σ') (hq : ∀ k, k ≠ 5 → k ≠ 6 → zrd σ' J k = zrd σ J k) (h5 : zrd σ' J 5 = zw (zrd σ J 5 + 1)) (h6 : zrd σ' J 6 = zw (zrd σ J 6 + p)) (hfd : zrd σ J 5 ≠ zrd σ J 4 → ∀ j, zrd σ' (J + 3) j = zrd σ (J + 3) j) (hfe : zrd σ J 5 = zrd σ J 4 → zrd σ' (J + 3) 0 = t ∧ zrd σ' (J + 3) 1 = v ∧ zrd σ' (J + 3) 2 = w ∧ zrd σ' (J + 3) 3 = c ∧ zrd σ' (J + 3) 4 = p) : jpo oJc J t [(k, p)] σ σ' := by
  refine ⟨hf, hq, ?_, ?_⟩
  · rw [h6]; simp [bsum]
  · intro L hL
    obtain ⟨a1, a2, a3⟩ := hL
    refine ⟨?_, ?_, ?_⟩
    · rw [h5, a1, zw_addl]; simp
    · rw [h6, a2, lsum_ap, zw_addl]; simp [lsum]
    · simp only [List.map_cons, List.map_nil, List.length_append, List.length_cons, List.length_nil]
      intro hlen j b hj h4
      rw [hq 4 (by decide) (by decide)] at h4
      have hc5 : zrd σ J 5 = (L.length : Int) := by rw [a1]; exact zwj (by omega) (by omega)
      by_cases c1 : j < L.length
      · rw [List.getElem?_append_left c1] at hj
        have hne : zrd σ J 5 ≠ zrd σ J 4 := by rw [hc5, h4]; omega
        rw [hfd hne, hfd hne, hfd hne, hfd hne, hfd hne]
        exact a3 (by omega) j b hj h4
      · rw [List.getElem?_append_right (by omega)] at hj
        have hj0 : j - L.length = 0 := by
          by_cases c2 : j - L.length = 0
          · exact c2
          · rw [List.getElem?_eq_none (by simp; omega)] at hj; cases hj
        rw [hj0] at hj
        cases hj
        rw [hk, ← hv, ← hw]
        exact hfe (by rw [hc5, h4]; omega)
theorem zrd_st_eq {σ : Zm} {o k : Nat} {v : Int} : zrd (zst σ o k v) o k = zw v := by rw [zrd_st, if_pos ⟨rfl, rfl⟩]
theorem pJ_askClauses_3 {J R : Nat} (hR : zLN (R + 1) = 300) (hJR : ∀ j, j < 6 → ¬ oJ J (R + j)) (E : Nat → Int) (hE : ∀ k, -1000000 ≤ E k ∧ E k ≤ 1000000) (s t : Int) (hs : s = 0 ∨ s = 1) (ht : zw t = t) (n : Nat) (hn : n ≤ 10) : ∀ (T : List Cl) (m k : Nat) (σ : Zm), T.length < m → k + T.length = n → zrd σ R 5 = (n : Int) → TRl σ R T k → WF T → (∀ j, nok s j → zrd σ (J + 1) j = E j) → zwp (fJ_askClauses_3 m J R s t (k : Int) σ) (fun _ σ' => jpo oJc J t (brk E s T k) σ σ')
  | [], m + 1, k, σ, _, hk, h5, hT, hW, hN => by
    rw [fJ_askClauses_3]
    simp only [zwp_let]
    simp only [List.length_nil] at hk
    rw [if_pos (by omega), zwp_some]
    exact jpo.rf
  | c :: T, m + 1, k, σ, hm, hk, h5, hT, hW, hN => by
    simp only [List.length_cons] at hm hk
    obtain ⟨⟨hso, a, b1, b2, b3, b4, b5, b6⟩, hT2⟩ := hT
    obtain ⟨w1, w2, w3, w4, w5⟩ := hW c List.mem_cons_self
    have hnx : zw ((k : Int) + 1) = ((k + 1 : Nat) : Int) := zwj (by omega) (by omega)
    have hRd : ∀ j, j < 6 → ¬ oJc J (R + j) := fun j hj q => hJR j hj (by rcases q with q | q | q; exact Or.inl q; exact Or.inr (Or.inr (Or.inl q)); exact Or.inr (Or.inr (Or.inr q)))
    have go : ∀ (σ1 : Zm) (B : List (Nat × Int)), jpo oJc J t B σ σ1 → B ++ brk E s T (k + 1) = brk E s (c :: T) k → zwp (fJ_askClauses_3 m J R s t ((k + 1 : Nat) : Int) σ1) (fun _ σ' => jpo oJc J t (brk E s (c :: T) k) σ σ') := by
      intro σ1 B h1 h2
      refine zwp_mono (pJ_askClauses_3 hR hJR E hE s t hs ht n hn T m (k + 1) σ1 (by omega) (by omega) ?_ ?_ (fun x hx => hW x (List.mem_cons_of_mem _ hx)) ?_) (fun r σ2 h3 => ?_)
      · rw [h1.1.rd (show ¬ oJc J R from hRd 0 (by decide))]; exact h5
      · exact TRl_fo h1.1 hRd T (k + 1) hT2
      · intro j hj
        rw [h1.1.rd (show ¬ oJc J (J + 1) by unfold oJc; omega)]
        exact hN j hj
      · rw [← h2]
        exact h1.tr h3
    have hNl : ∀ (σ1 : Zm) (l : List Int), zfo (oJ2 J) σ σ1 → c.1 = s → wfl c.1 l → ∀ x ∈ l, 1000 ≤ x → x < 1021 → zrd σ1 (J + 1) (x - 1000).toNat = E (x - 1000).toNat := by
      intro σ1 l hf hcs hw x hx h1 h2
      rw [hf.rd (show ¬ oJ2 J (J + 1) by unfold oJ2; omega)]
      exact hN _ (by rw [← hcs]; exact hw x hx h1 h2)
    have hRJ : R + 1 ≠ J + 2 := fun q => hRd 1 (by decide) (Or.inr (Or.inl q))
    rw [fJ_askClauses_3]
    simp only [zwp_let]
    rw [if_neg (by omega), zckj (by omega) (by omega), zwp_let, Int.toNat_natCast, hso, hnx]
    by_cases c1 : c.1 = s
    · rw [ifnn c1, zckj (by omega) (by omega), zwp_let, zckj (by omega) (by omega), zwp_let, b2, b3, zwp_bi]
      refine zwp_mono (qJ_value_c hR hRJ E hE σ c.2.2 (a + c.2.1.length) (by omega) (hNl σ _ zfo.rf c1 w5) b6 w3) (fun r σ1 ⟨hf1, hr⟩ => ?_)
      have hq1 : jpo oJc J t [] σ σ1 := by
        have hfc : zfo (oJc J) σ σ1 := hf1.mono (fun q h => Or.inr (Or.inl h))
        have e0 : ∀ k, zrd σ1 J k = zrd σ J k := fun k => hf1.rd (show ¬ oJ2 J J by unfold oJ2; omega) k
        have e3 : ∀ k, zrd σ1 (J + 3) k = zrd σ (J + 3) k := fun k => hf1.rd (show ¬ oJ2 J (J + 3) by unfold oJ2; omega) k
        refine ⟨hfc, fun k _ _ => e0 k, ?_, ?_⟩
        · rw [e0]; simp [bsum, zw_rd]
        · intro L hL
          unfold jl at *
          simp only [e0, e3, List.map_nil, List.append_nil]
          exact hL
      have hrb : zw r = r := by
        have hh := ev_wt hE c.2.2 [] [] w3 (by intro x hx; cases hx) (by intro x hx; cases hx)
        have : r = 0 ∨ r = 1 := by
          rw [hr]
          unfold evc
          match (ev E c.2.2 ([], [])).2, hh.2.1, hh.2.2.2 with
          | [x], _, h => exact h x (by simp)
        rcases this with h | h <;> rw [h] <;> decide
      rw [hrb]
      by_cases c2 : r = 0
      · rw [ifnn c2]
        refine go σ1 [] hq1 ?_
        show brk E s T (k + 1) = if c.1 = s ∧ evc E c.2.2 ≠ 0 then _ else brk E s T (k + 1)
        rw [if_neg (fun q => q.2 (by rw [← hr]; exact c2))]
      · rw [if_pos c2, zckj (by omega) (by omega), zwp_let, zckj (by omega) (by omega), zwp_let]
        have hRd2 : ∀ j, j < 6 → ¬ oJ2 J (R + j) := fun j hj q => hRd j hj (Or.inr (Or.inl q))
        rw [hf1.rd (hRd2 3 (by decide)), hf1.rd (hRd2 4 (by decide)), b1, b2, zwp_bi]
        have hw1 := w2 (by omega)
        refine zwp_mono (qJ_value_p hR hRJ E hE σ1 c.2.1 a (by omega) (hNl σ1 _ hf1 c1 w4) ?_ hw1) (fun r2 σ2 ⟨hf2, hr2⟩ => ?_)
        · have e : zrd σ1 (R + 1) = zrd σ (R + 1) := by funext j; exact hf1.rd (hRd2 1 (by decide)) j
          rw [e]; exact b5
        have hpb := evp_bd hE hw1
        have hq2 : jpo oJc J t [] σ σ2 := by
          have hfc : zfo (oJc J) σ σ2 := (hf1.tr hf2).mono (fun q h => Or.inr (Or.inl h))
          have e0 : ∀ k, zrd σ2 J k = zrd σ J k := fun k => (hf1.tr hf2).rd (show ¬ oJ2 J J by unfold oJ2; omega) k
          have e3 : ∀ k, zrd σ2 (J + 3) k = zrd σ (J + 3) k := fun k => (hf1.tr hf2).rd (show ¬ oJ2 J (J + 3) by unfold oJ2; omega) k
          refine ⟨hfc, fun k _ _ => e0 k, ?_, ?_⟩
          · rw [e0]; simp [bsum, zw_rd]
          · intro L hL
            unfold jl at *
            simp only [e0, e3, List.map_nil, List.append_nil]
            exact hL
        rw [zwj (a := r2) (by omega) (by omega), hr2]
        simp only [zwp_let]
        have hp : max 0 (min 999 (evp E c.2.1)) = prc E c.2.1 := rfl
        rw [hp]
        have hpb2 : 0 ≤ prc E c.2.1 ∧ prc E c.2.1 ≤ 999 := by unfold prc; omega
        have hB : [(k, prc E c.2.1)] ++ brk E s T (k + 1) = brk E s (c :: T) k := by
          show _ = if c.1 = s ∧ evc E c.2.2 ≠ 0 then _ else brk E s T (k + 1)
          rw [if_pos ⟨c1, by rw [← hr]; exact c2⟩]
          rfl
        by_cases c3 : zrd σ2 J 5 = zrd σ2 J 4
        · rw [ifnn c3, zckj (by omega) (by omega), zwp_let, zwp_let, zckj (by omega) (by omega), zwp_let, zwp_let, zckj (by omega) (by omega), zwp_let, zckj (by omega) (by omega), zwp_let, zckj (by omega) (by omega), zwp_let]
          unfold fJ_askClauses_143
          simp only [zwp_let]
          rw [hnx]
          refine go _ ([] ++ [(k, prc E c.2.1)]) (hq2.tr (jadd (v := zrd σ2 J 7) (w := zrd σ2 J 8) rfl rfl rfl _ ?_ ?_ ?_ ?_ ?_ ?_)) (by rw [List.nil_append]; exact hB)
          · exact ((((((zfo.rf.st (Or.inr (Or.inr rfl))).st (Or.inr (Or.inr rfl))).st (Or.inr (Or.inr rfl))).st (Or.inr (Or.inr rfl))).st (Or.inr (Or.inr rfl))).st (Or.inl rfl)).st (Or.inl rfl)
          · intro j h1 h2
            simp (disch := omega) only [zrd_st, ifn]
          · simp (disch := omega) only [zrd_st, ifn, ifp]
            simp
          · simp (disch := omega) only [zrd_st, ifn, ifp]
            simp
          · intro h; exact absurd c3 h
          · intro _
            have := zw_rd σ2 J 7
            have := zw_rd σ2 J 8
            have h7 : zw (k : Int) = (k : Int) := zwj (by omega) (by omega)
            have h8 : zw (prc E c.2.1) = prc E c.2.1 := zwj (by omega) (by omega)
            simp (disch := omega) only [zrd_st, ifn, ifp]
            simp [h7, h8, ht, zw_rd]
        · rw [if_pos c3]
          unfold fJ_askClauses_143
          simp only [zwp_let]
          rw [hnx]
          refine go _ ([] ++ [(k, prc E c.2.1)]) (hq2.tr (jadd (v := zrd σ2 J 7) (w := zrd σ2 J 8) rfl rfl rfl _ ?_ ?_ ?_ ?_ ?_ ?_)) (by rw [List.nil_append]; exact hB)
          · exact (zfo.rf.st (Or.inl rfl)).st (Or.inl rfl)
          · intro j h1 h2
            simp (disch := omega) only [zrd_st, ifn]
          · simp (disch := omega) only [zrd_st, ifn, ifp]
            simp
          · simp (disch := omega) only [zrd_st, ifn, ifp]
            simp
          · intro _ j
            simp (disch := omega) only [zrd_st, ifn]
          · intro h; exact absurd h c3
    · rw [if_pos c1]
      refine go σ [] jpo.rf ?_
      show brk E s T (k + 1) = if c.1 = s ∧ evc E c.2.2 ≠ 0 then _ else brk E s T (k + 1)
      rw [if_neg (fun q => c1 q.1)]
theorem qJ_askClauses {J R : Nat} (hR : zLN (R + 1) = 300) (hJR : ∀ j, j < 6 → ¬ oJ J (R + j)) (E : Nat → Int) (hE : ∀ k, -1000000 ≤ E k ∧ E k ≤ 1000000) (s t : Int) (hs : s = 0 ∨ s = 1) (ht : zw t = t) (T : List Cl) (σ : Zm) (hT : TRc σ R T) (hW : WF T) (hN : ∀ j, nok s j → zrd σ (J + 1) j = E j) : zwp (fJ_askClauses σ J R s t) (fun _ σ' => jpo oJc J t (brk E s T 0) σ σ') := by
  unfold fJ_askClauses
  exact pJ_askClauses_3 hR hJR E hE s t hs ht T.length hT.2.1 T 5000 0 σ (by have := hT.2.1; omega) (by omega) hT.1 hT.2.2 hW hN

/-! MY OWN: what the reference judges of a sheet -/
def mok (x : Nat) (T : List Cl) (bar : Int) (A : Nat → Ln) (σ : Zm) : Prop := x < 6 ∧ TRm σ x T ∧ WF T ∧ zrd σ 274 0 = bar ∧ (1 ≤ bar ∧ bar ≤ 12) ∧ MV A σ ∧ ∀ v, v < 4 → lsm (A v)
theorem mok_fo {D : Nat → Prop} {x : Nat} {T : List Cl} {bar : Int} {A : Nat → Ln} {σ σ1 : Zm} (h : mok x T bar A σ) (hf : zfo D σ σ1) (hD : ∀ q, D q → q ≠ 276 ∧ q ≠ 274 ∧ q ≠ 282 ∧ q ≠ 283) : mok x T bar A σ1 := by
  obtain ⟨h1, h2, h3, h4, h5, h6, h7⟩ := h
  refine ⟨h1, TRm_fo hf (fun z => (hD _ z).1 rfl) h2, h3, ?_, h5, MV_fo h6 hf (fun z => (hD _ z).2.2.1 rfl) (fun z => (hD _ z).2.2.2 rfl), h7⟩
  rw [hf.rd (fun z => (hD _ z).2.1 rfl)]
  exact h4
theorem mok_mp {x : Nat} {T : List Cl} {bar : Int} {A : Nat → Ln} {B : List Bk} {σ σ1 : Zm} (h : mok x T bar A σ) (hf : mpo B σ σ1) : mok x T bar A σ1 := mok_fo h hf.1 (fun q z => by unfold oMJ at z; omega)
def oM3 (q : Nat) : Prop := q = 273 ∨ q = 280 ∨ q = 281 ∨ q = 284
theorem pM_judgePair_32 {x : Nat} (hx : x < 6) (E : Nat → Int) (hE : ∀ k, -1000000 ≤ E k ∧ E k ≤ 1000000) (v : Nat) (hv : v < 4) (w : Nat) (hw : w < 4) (t : Nat) (ht : t < 32) (n : Nat) (hn : n ≤ 10) : ∀ (T : List Cl) (m k : Nat) (σ : Zm), T.length < m → k + T.length = n → zrd σ 276 (900 * x) = (n : Int) → TMl σ x T k → WF T → mnm 0 E σ → zwp (fM_judgePair_32 m (x : Int) (v : Int) (w : Int) (t : Int) (k : Int) σ) (fun _ σ' => mpo (tag (t : Int) (v : Int) (w : Int) (brk E 0 T k)) σ σ' ∧ zfo oM3 σ σ')
  | [], m + 1, k, σ, _, hk, h5, hT, hW, hN => by
    rw [fM_judgePair_32]
    simp only [zwp_let]
    simp only [List.length_nil] at hk
    unfold fM_clauses
    rw [show zw (900 * (x : Int)) = ((900 * x : Nat) : Int) by rw [zwj (by omega) (by omega)]; omega, zckj (by omega) (by omega), zwp_bi, zwp_let, Int.toNat_natCast, h5, zwp_some, zwj (a := (n : Int)) (by omega) (by omega), if_pos (by omega), zwp_some]
    exact ⟨mpo.rf, zfo.rf⟩
  | c :: T, m + 1, k, σ, hm, hk, h5, hT, hW, hN => by
    simp only [List.length_cons] at hm hk
    have hwc := hW c List.mem_cons_self
    have ez : zw ((k : Int) + 1) = ((k + 1 : Nat) : Int) := zwj (by omega) (by omega)
    have hst : brk E 0 (c :: T) k = if c.1 = 0 ∧ evc E c.2.2 ≠ 0 then (k, prc E c.2.1) :: brk E 0 T (k + 1) else brk E 0 T (k + 1) := rfl
    have go : ∀ (σ1 : Zm) (B : List (Nat × Int)), mpo (tag (t : Int) (v : Int) (w : Int) B) σ σ1 → zfo oM3 σ σ1 → B ++ brk E 0 T (k + 1) = brk E 0 (c :: T) k → zwp (fM_judgePair_32 m (x : Int) (v : Int) (w : Int) (t : Int) ((k + 1 : Nat) : Int) σ1) (fun _ σ' => mpo (tag (t : Int) (v : Int) (w : Int) (brk E 0 (c :: T) k)) σ σ' ∧ zfo oM3 σ σ') := by
      intro σ1 B h1 h1' h2
      have e276 : ∀ j, zrd σ1 276 j = zrd σ 276 j := fun j => h1.1.rd (by unfold oMJ; omega) j
      refine zwp_mono (pM_judgePair_32 hx E hE v hv w hw t ht n hn T m (k + 1) σ1 (by omega) (by omega) (by rw [e276]; exact h5) (TMl_cg (fun j _ _ => e276 j) T (k + 1) (by omega) hT.2) (fun y hy => hW y (List.mem_cons_of_mem _ hy)) ?_) (fun r σ2 ⟨h3, h4⟩ => ⟨?_, h1'.tr h4⟩)
      · intro j hj
        rw [h1'.rd (by unfold oM3; omega)]
        exact hN j hj
      · rw [← h2]
        unfold tag
        rw [List.map_append]
        exact h1.tr h3
    rw [fM_judgePair_32]
    simp only [zwp_let]
    unfold fM_clauses fM_clauseAt
    rw [show zw (900 * (x : Int)) = ((900 * x : Nat) : Int) by rw [zwj (by omega) (by omega)]; omega, zckj (by omega) (by omega), zwp_bi, zwp_let, Int.toNat_natCast, h5, zwp_some, zwj (a := (n : Int)) (by omega) (by omega), if_neg (by omega), zwp_bi, zwp_some, show zw (900 * (x : Int) + 1 + 5 * (k : Int)) = ((900 * x + 1 + 5 * k : Nat) : Int) by rw [zwj (by omega) (by omega)]; omega, zckj (by omega) (by omega), zwp_let, Int.toNat_natCast, hT.1.1, ez]
    by_cases c1 : c.1 = 0
    · rw [ifnn (by omega), zwp_bi]
      refine zwp_mono (qM_isSo hx (by omega) E hE σ hT.1 hwc (by rw [c1]; exact hN)) (fun r σ1 ⟨f1, hr⟩ => ?_)
      have hrw : zw r = r := by rcases evc_01 hE hwc.2.2.1 with q | q <;> rw [hr, q] <;> decide
      have m1 := mpo_of f1 (fun q z => by unfold oW at z; omega)
      have f1' : zfo oM3 σ σ1 := f1.mono (fun q z => by unfold oW at z; unfold oM3; omega)
      rw [hrw]
      by_cases c2 : r = 0
      · rw [if_pos c2]
        rw [if_neg (show ¬ (c.1 = 0 ∧ evc E c.2.2 ≠ 0) from fun q => q.2 (by rw [← hr]; exact c2))] at hst
        exact go σ1 [] m1 f1' hst.symm
      · rw [if_neg c2, zwp_bi]
        rw [if_pos (show c.1 = 0 ∧ evc E c.2.2 ≠ 0 from ⟨c1, by rw [← hr]; exact c2⟩)] at hst
        have hT1 : TMk σ1 x k c := TMk_cg (by omega) (fun j _ _ => f1.rd (by unfold oW; omega) j) hT.1
        refine zwp_mono (qM_priceAt hx (by omega) E hE σ1 hT1 hwc (by omega) (by rw [c1]; intro j hj; rw [f1.rd (by unfold oW; omega)]; exact hN j hj)) (fun r2 σ2 ⟨f2, hr2⟩ => ?_)
        have m2 := mpo_of f2 (fun q z => by unfold oW at z; omega)
        have f2' : zfo oM3 σ1 σ2 := f2.mono (fun q z => by unfold oW at z; unfold oM3; omega)
        have hpb : 0 ≤ prc E c.2.1 ∧ prc E c.2.1 ≤ 999 := by unfold prc; omega
        rw [zwj (a := r2) (by omega) (by omega), hr2, zwp_bv]
        refine zwp_mono (qM_breakAt σ2 (t : Int) (v : Int) (w : Int) (k : Int) (prc E c.2.1) (zwj (by omega) (by omega)) (zwj (by omega) (by omega)) (zwj (by omega) (by omega)) (zwj (by omega) (by omega)) (zwj (by omega) (by omega))) (fun r3 σ3 ⟨m3, f3⟩ => ?_)
        have m4 := (m1.tr m2).tr m3
        refine go σ3 [(k, prc E c.2.1)] m4 ((f1'.tr f2').tr (f3.mono (fun q z => by unfold oM3; omega))) hst.symm
    · rw [if_pos (by omega)]
      rw [if_neg (show ¬ (c.1 = 0 ∧ evc E c.2.2 ≠ 0) from fun q => c1 q.1)] at hst
      exact go σ [] mpo.rf zfo.rf hst.symm
theorem pM_judgeLine_37 {x : Nat} (hx : x < 6) (E : Nat → Int) (hE : ∀ k, -1000000 ≤ E k ∧ E k ≤ 1000000) (v : Nat) (hv : v < 4) (t : Nat) (ht : t < 32) (n : Nat) (hn : n ≤ 10) : ∀ (T : List Cl) (m k : Nat) (σ : Zm), T.length < m → k + T.length = n → zrd σ 276 (900 * x) = (n : Int) → TMl σ x T k → WF T → mnm 1 E σ → zwp (fM_judgeLine_37 m (x : Int) (v : Int) (t : Int) (k : Int) σ) (fun _ σ' => mpo (tag (t : Int) (v : Int) (-1) (brk E 1 T k)) σ σ' ∧ zfo oM3 σ σ')
  | [], m + 1, k, σ, _, hk, h5, hT, hW, hN => by
    rw [fM_judgeLine_37]
    simp only [zwp_let]
    simp only [List.length_nil] at hk
    unfold fM_clauses
    rw [show zw (900 * (x : Int)) = ((900 * x : Nat) : Int) by rw [zwj (by omega) (by omega)]; omega, zckj (by omega) (by omega), zwp_bi, zwp_let, Int.toNat_natCast, h5, zwp_some, zwj (a := (n : Int)) (by omega) (by omega), if_pos (by omega), zwp_some]
    exact ⟨mpo.rf, zfo.rf⟩
  | c :: T, m + 1, k, σ, hm, hk, h5, hT, hW, hN => by
    simp only [List.length_cons] at hm hk
    have hwc := hW c List.mem_cons_self
    have ez : zw ((k : Int) + 1) = ((k + 1 : Nat) : Int) := zwj (by omega) (by omega)
    have hst : brk E 1 (c :: T) k = if c.1 = 1 ∧ evc E c.2.2 ≠ 0 then (k, prc E c.2.1) :: brk E 1 T (k + 1) else brk E 1 T (k + 1) := rfl
    have go : ∀ (σ1 : Zm) (B : List (Nat × Int)), mpo (tag (t : Int) (v : Int) (-1) B) σ σ1 → zfo oM3 σ σ1 → B ++ brk E 1 T (k + 1) = brk E 1 (c :: T) k → zwp (fM_judgeLine_37 m (x : Int) (v : Int) (t : Int) ((k + 1 : Nat) : Int) σ1) (fun _ σ' => mpo (tag (t : Int) (v : Int) (-1) (brk E 1 (c :: T) k)) σ σ' ∧ zfo oM3 σ σ') := by
      intro σ1 B h1 h1' h2
      have e276 : ∀ j, zrd σ1 276 j = zrd σ 276 j := fun j => h1.1.rd (by unfold oMJ; omega) j
      refine zwp_mono (pM_judgeLine_37 hx E hE v hv t ht n hn T m (k + 1) σ1 (by omega) (by omega) (by rw [e276]; exact h5) (TMl_cg (fun j _ _ => e276 j) T (k + 1) (by omega) hT.2) (fun y hy => hW y (List.mem_cons_of_mem _ hy)) ?_) (fun r σ2 ⟨h3, h4⟩ => ⟨?_, h1'.tr h4⟩)
      · intro j hj
        rw [h1'.rd (by unfold oM3; omega)]
        exact hN j hj
      · rw [← h2]
        unfold tag
        rw [List.map_append]
        exact h1.tr h3
    rw [fM_judgeLine_37]
    simp only [zwp_let]
    unfold fM_clauses fM_clauseAt
    rw [show zw (900 * (x : Int)) = ((900 * x : Nat) : Int) by rw [zwj (by omega) (by omega)]; omega, zckj (by omega) (by omega), zwp_bi, zwp_let, Int.toNat_natCast, h5, zwp_some, zwj (a := (n : Int)) (by omega) (by omega), if_neg (by omega), zwp_bi, zwp_some, show zw (900 * (x : Int) + 1 + 5 * (k : Int)) = ((900 * x + 1 + 5 * k : Nat) : Int) by rw [zwj (by omega) (by omega)]; omega, zckj (by omega) (by omega), zwp_let, Int.toNat_natCast, hT.1.1, ez]
    by_cases c1 : c.1 = 1
    · rw [ifnn (by omega), zwp_bi]
      refine zwp_mono (qM_isSo hx (by omega) E hE σ hT.1 hwc (by rw [c1]; exact hN)) (fun r σ1 ⟨f1, hr⟩ => ?_)
      have hrw : zw r = r := by rcases evc_01 hE hwc.2.2.1 with q | q <;> rw [hr, q] <;> decide
      have m1 := mpo_of f1 (fun q z => by unfold oW at z; omega)
      have f1' : zfo oM3 σ σ1 := f1.mono (fun q z => by unfold oW at z; unfold oM3; omega)
      rw [hrw]
      by_cases c2 : r = 0
      · rw [if_pos c2]
        rw [if_neg (show ¬ (c.1 = 1 ∧ evc E c.2.2 ≠ 0) from fun q => q.2 (by rw [← hr]; exact c2))] at hst
        exact go σ1 [] m1 f1' hst.symm
      · rw [if_neg c2, zwp_bi]
        rw [if_pos (show c.1 = 1 ∧ evc E c.2.2 ≠ 0 from ⟨c1, by rw [← hr]; exact c2⟩)] at hst
        have hT1 : TMk σ1 x k c := TMk_cg (by omega) (fun j _ _ => f1.rd (by unfold oW; omega) j) hT.1
        refine zwp_mono (qM_priceAt hx (by omega) E hE σ1 hT1 hwc (by omega) (by rw [c1]; intro j hj; rw [f1.rd (by unfold oW; omega)]; exact hN j hj)) (fun r2 σ2 ⟨f2, hr2⟩ => ?_)
        have m2 := mpo_of f2 (fun q z => by unfold oW at z; omega)
        have f2' : zfo oM3 σ1 σ2 := f2.mono (fun q z => by unfold oW at z; unfold oM3; omega)
        have hpb : 0 ≤ prc E c.2.1 ∧ prc E c.2.1 ≤ 999 := by unfold prc; omega
        rw [zwj (a := r2) (by omega) (by omega), hr2, zwp_bv]
        refine zwp_mono (qM_breakAt σ2 (t : Int) (v : Int) (-1) (k : Int) (prc E c.2.1) (zwj (by omega) (by omega)) (zwj (by omega) (by omega)) (by decide) (zwj (by omega) (by omega)) (zwj (by omega) (by omega))) (fun r3 σ3 ⟨m3, f3⟩ => ?_)
        have m4 := (m1.tr m2).tr m3
        refine go σ3 [(k, prc E c.2.1)] m4 ((f1'.tr f2').tr (f3.mono (fun q z => by unfold oM3; omega))) hst.symm
    · rw [if_pos (by omega)]
      rw [if_neg (show ¬ (c.1 = 1 ∧ evc E c.2.2 ≠ 0) from fun q => c1 q.1)] at hst
      exact go σ [] mpo.rf zfo.rf hst.symm
theorem qM_judgePair {x : Nat} {T : List Cl} {bar : Int} {A : Nat → Ln} {σ : Zm} (h : mok x T bar A σ) (v w : Nat) (hv : v < 4) (hw : w < 4) (t : Nat) (ht : t < 32) : zwp (fM_judgePair σ (x : Int) (v : Int) (w : Int) (t : Int)) (fun _ σ' => mpo (tag t v w (pbk T (A v) (A w) t bar)) σ σ') := by
  obtain ⟨h1, h2, h3, h4, h5, h6, h7⟩ := h
  have hl : ∀ a : Ln, lsi a (t : Int) = if (a t).1 ≠ 0 then 1 else 0 := by
    intro a
    unfold lsi
    rw [Int.toNat_natCast]
    exact ite_cg ⟨fun q => q.2, fun q => ⟨by omega, q⟩⟩
  unfold fM_judgePair pbk
  rw [zwp_bi, qM_sounds h6 hv _ (by omega), zwp_some, lsi_w, hl]
  by_cases c1 : (A v t).1 ≠ 0
  · rw [if_pos c1, if_neg (by decide), zwp_bi, qM_sounds h6 hw _ (by omega), zwp_some, lsi_w, hl]
    by_cases c2 : (A w t).1 ≠ 0
    · rw [if_pos c2, if_pos (by decide), if_pos (show (A v t).1 ≠ 0 ∧ (A w t).1 ≠ 0 from ⟨c1, c2⟩), zwp_bv]
      refine zwp_mono (qM_namePair h6 h7 h4 h5 hv hw t ht c1 c2) (fun r σ1 ⟨f1, n1⟩ => ?_)
      have e276 : ∀ j, zrd σ1 276 j = zrd σ 276 j := fun j => f1.rd (by unfold oM9; omega) j
      have h2' := TRm_cg (σ1 := σ1) (fun j _ _ => e276 j) h2
      refine zwp_mono (pM_judgePair_32 h1 _ (pev_bd (h7 v hv) (h7 w hw) ht h5.1) v hv w hw t ht T.length h2.2.1 T 5000 0 σ1 (by have := h2.2.1; omega) (by omega) h2'.1 h2'.2.2 h3 n1) (fun r σ2 ⟨m2, _⟩ => ?_)
      exact (mpo_of f1 (fun q z => by unfold oM9 at z; omega)).tr m2
    · rw [if_neg c2, ifnn rfl, zwp_some, if_neg (fun q => c2 q.2)]
      exact mpo.rf
  · rw [if_neg c1, if_pos rfl, zwp_some, if_neg (fun q => c1 q.1)]
    exact mpo.rf
theorem qM_judgeLine {x : Nat} {T : List Cl} {bar : Int} {A : Nat → Ln} {σ : Zm} (h : mok x T bar A σ) (v : Nat) (hv : v < 4) (t : Nat) (ht : t < 32) : zwp (fM_judgeLine σ (x : Int) (v : Int) (t : Int)) (fun _ σ' => mpo (tag t v (-1) (lbk T (A v) t bar)) σ σ') := by
  obtain ⟨h1, h2, h3, h4, h5, h6, h7⟩ := h
  obtain ⟨n1, n2, n3⟩ := lna_lt (A v) t
  have hl : ∀ a : Ln, lsi a (t : Int) = if (a t).1 ≠ 0 then 1 else 0 := by
    intro a
    unfold lsi
    rw [Int.toNat_natCast]
    exact ite_cg ⟨fun q => q.2, fun q => ⟨by omega, q⟩⟩
  unfold fM_judgeLine lbk
  rw [zwp_bi, qM_sounds h6 hv _ (by omega), zwp_some, lsi_w, hl]
  by_cases c1 : (A v t).1 ≠ 0
  · rw [if_pos c1, if_neg (by decide), zwp_bi, qM_beginsAt h6 hv t ht, zwp_some, ite01_w]
    by_cases c2 : (A v t).1 = 1
    · rw [if_pos c2, if_neg (by decide), zwp_bi, qM_beganAhead h6 hv t (by omega), zwp_some, zwj (a := lna (A v) t) (by omega) (by omega)]
      by_cases c3 : 0 ≤ lna (A v) t
      · rw [if_pos c3, if_pos (show (A v t).1 = 1 ∧ 0 ≤ lna (A v) t from ⟨c2, c3⟩), zwp_bv]
        refine zwp_mono (qM_nameLine h6 h7 h4 h5 hv t ht c2 c3) (fun r σ1 ⟨f1, n1⟩ => ?_)
        have e276 : ∀ j, zrd σ1 276 j = zrd σ 276 j := fun j => f1.rd (by unfold oM9; omega) j
        have h2' := TRm_cg (σ1 := σ1) (fun j _ _ => e276 j) h2
        refine zwp_mono (pM_judgeLine_37 h1 _ (lev_bd (h7 v hv) ht h5.1) v hv t ht T.length h2.2.1 T 5000 0 σ1 (by have := h2.2.1; omega) (by omega) h2'.1 h2'.2.2 h3 n1) (fun r σ2 ⟨m2, _⟩ => ?_)
        exact (mpo_of f1 (fun q z => by unfold oM9 at z; omega)).tr m2
      · rw [if_neg c3, zwp_some, if_neg (fun q => c3 q.2)]
        exact mpo.rf
    · rw [if_neg c2, if_pos rfl, zwp_some, if_neg (fun q => c2 q.1)]
      exact mpo.rf
  · rw [if_neg c1, if_pos rfl, zwp_some, if_neg (fun q => by rw [q.1] at c1; exact c1 (by decide))]
    exact mpo.rf
theorem pM_judge_28 {x : Nat} {T : List Cl} {bar : Int} {A : Nat → Ln} {σ : Zm} (h : mok x T bar A σ) (t : Nat) (ht : t < 32) (P : Int → Zm → Prop) (K : Int → Int → Zm → Zr) (hK : ∀ σ', mpo (tag t 0 1 (pbk T (A 0) (A 1) t bar) ++ tag t 0 2 (pbk T (A 0) (A 2) t bar) ++ tag t 0 3 (pbk T (A 0) (A 3) t bar) ++ tag t 1 2 (pbk T (A 1) (A 2) t bar) ++ tag t 1 3 (pbk T (A 1) (A 3) t bar) ++ tag t 2 3 (pbk T (A 2) (A 3) t bar)) σ σ' → zwp (K (x : Int) (t : Int) σ') P) : zwp (fM_judge_28 5000 (x : Int) (t : Int) 0 σ K) P := by
  rw [fM_judge_28]
  simp only [zwp_let]
  rw [if_neg (by decide), zwp_let, show zw ((0 : Int) + 1) = 1 by decide]
  rw [fM_judge_40]
  simp only [zwp_let]
  rw [if_neg (by decide), zwp_bv, show zw ((1 : Int) + 1) = 2 by decide]
  refine zwp_mono (qM_judgePair h 0 1 (by decide) (by decide) t ht) (fun _ σ1 m1 => ?_)
  have h1 := mok_mp h m1
  rw [fM_judge_40]
  simp only [zwp_let]
  rw [if_neg (by decide), zwp_bv, show zw ((2 : Int) + 1) = 3 by decide]
  refine zwp_mono (qM_judgePair h1 0 2 (by decide) (by decide) t ht) (fun _ σ2 m2 => ?_)
  have h2 := mok_mp h1 m2
  rw [fM_judge_40]
  simp only [zwp_let]
  rw [if_neg (by decide), zwp_bv, show zw ((3 : Int) + 1) = 4 by decide]
  refine zwp_mono (qM_judgePair h2 0 3 (by decide) (by decide) t ht) (fun _ σ3 m3 => ?_)
  have h3 := mok_mp h2 m3
  rw [fM_judge_40]
  simp only [zwp_let]
  rw [if_pos (by decide), show zw ((0 : Int) + 1) = 1 by decide]
  rw [fM_judge_28]
  simp only [zwp_let]
  rw [if_neg (by decide), zwp_let, show zw ((1 : Int) + 1) = 2 by decide]
  rw [fM_judge_40]
  simp only [zwp_let]
  rw [if_neg (by decide), zwp_bv, show zw ((2 : Int) + 1) = 3 by decide]
  refine zwp_mono (qM_judgePair h3 1 2 (by decide) (by decide) t ht) (fun _ σ4 m4 => ?_)
  have h4 := mok_mp h3 m4
  rw [fM_judge_40]
  simp only [zwp_let]
  rw [if_neg (by decide), zwp_bv, show zw ((3 : Int) + 1) = 4 by decide]
  refine zwp_mono (qM_judgePair h4 1 3 (by decide) (by decide) t ht) (fun _ σ5 m5 => ?_)
  have h5 := mok_mp h4 m5
  rw [fM_judge_40]
  simp only [zwp_let]
  rw [if_pos (by decide), show zw ((1 : Int) + 1) = 2 by decide]
  rw [fM_judge_28]
  simp only [zwp_let]
  rw [if_neg (by decide), zwp_let, show zw ((2 : Int) + 1) = 3 by decide]
  rw [fM_judge_40]
  simp only [zwp_let]
  rw [if_neg (by decide), zwp_bv, show zw ((3 : Int) + 1) = 4 by decide]
  refine zwp_mono (qM_judgePair h5 2 3 (by decide) (by decide) t ht) (fun _ σ6 m6 => ?_)
  have h6 := mok_mp h5 m6
  rw [fM_judge_40]
  simp only [zwp_let]
  rw [if_pos (by decide), show zw ((2 : Int) + 1) = 3 by decide]
  rw [fM_judge_28]
  simp only [zwp_let]
  rw [if_neg (by decide), zwp_let, show zw ((3 : Int) + 1) = 4 by decide]
  rw [fM_judge_40]
  simp only [zwp_let]
  rw [if_pos (by decide), show zw ((3 : Int) + 1) = 4 by decide]
  rw [fM_judge_28]
  simp only [zwp_let]
  rw [if_pos (by decide)]
  exact hK _ (((((m1.tr m2).tr m3).tr m4).tr m5).tr m6)
theorem pM_judge_72 {x : Nat} {T : List Cl} {bar : Int} {A : Nat → Ln} {σ : Zm} (h : mok x T bar A σ) (t : Nat) (ht : t < 32) (P : Int → Zm → Prop) (K : Int → Int → Zm → Zr) (hK : ∀ σ', mpo (tag t 0 (-1) (lbk T (A 0) t bar) ++ tag t 1 (-1) (lbk T (A 1) t bar) ++ tag t 2 (-1) (lbk T (A 2) t bar) ++ tag t 3 (-1) (lbk T (A 3) t bar)) σ σ' → zwp (K (x : Int) (t : Int) σ') P) : zwp (fM_judge_72 5000 (x : Int) (t : Int) 0 σ K) P := by
  rw [fM_judge_72]
  simp only [zwp_let]
  rw [if_neg (by decide), zwp_bv, show zw ((0 : Int) + 1) = 1 by decide]
  refine zwp_mono (qM_judgeLine h 0 (by decide) t ht) (fun _ σ1 m1 => ?_)
  have h1 := mok_mp h m1
  rw [fM_judge_72]
  simp only [zwp_let]
  rw [if_neg (by decide), zwp_bv, show zw ((1 : Int) + 1) = 2 by decide]
  refine zwp_mono (qM_judgeLine h1 1 (by decide) t ht) (fun _ σ2 m2 => ?_)
  have h2 := mok_mp h1 m2
  rw [fM_judge_72]
  simp only [zwp_let]
  rw [if_neg (by decide), zwp_bv, show zw ((2 : Int) + 1) = 3 by decide]
  refine zwp_mono (qM_judgeLine h2 2 (by decide) t ht) (fun _ σ3 m3 => ?_)
  have h3 := mok_mp h2 m3
  rw [fM_judge_72]
  simp only [zwp_let]
  rw [if_neg (by decide), zwp_bv, show zw ((3 : Int) + 1) = 4 by decide]
  refine zwp_mono (qM_judgeLine h3 3 (by decide) t ht) (fun _ σ4 m4 => ?_)
  have h4 := mok_mp h3 m4
  rw [fM_judge_72]
  simp only [zwp_let]
  rw [if_pos (by decide)]
  exact hK _ (((m1.tr m2).tr m3).tr m4)
theorem pM_judge_18 {x : Nat} {T : List Cl} {bar : Int} {A : Nat → Ln} : ∀ (d m t : Nat) (σ : Zm), mok x T bar A σ → d < m → t + d = 32 → zwp (fM_judge_18 m (x : Int) (t : Int) σ) (fun r σ' => mpo (abk T A bar d t) σ σ' ∧ r = zrd σ' 273 27)
  | 0, m + 1, t, σ, h, _, ht => by
    rw [fM_judge_18]
    simp only [zwp_let]
    rw [if_pos (by omega), zwp_let, zwp_some]
    exact ⟨mpo.rf, rfl⟩
  | d + 1, m + 1, t, σ, h, hm, ht => by
    rw [fM_judge_18]
    simp only [zwp_let]
    rw [if_neg (by omega)]
    refine pM_judge_28 h t (by omega) _ _ (fun σ1 m1 => ?_)
    refine pM_judge_72 (mok_mp h m1) t (by omega) _ _ (fun σ2 m2 => ?_)
    rw [show zw ((t : Int) + 1) = ((t + 1 : Nat) : Int) from zwj (by omega) (by omega)]
    refine zwp_mono (pM_judge_18 d m (t + 1) σ2 (mok_mp (mok_mp h m1) m2) (by omega) (by omega)) (fun r σ3 ⟨m3, e⟩ => ⟨?_, e⟩)
    have := (m1.tr m2).tr m3
    unfold abk tbk
    simp only [List.append_assoc] at this ⊢
    exact this
theorem qM_judge {x : Nat} {T : List Cl} {bar : Int} {A : Nat → Ln} {σ : Zm} (h : mok x T bar A σ) (f : Nat) (hf : f ≤ 32) (i : Int) (hi : zw i = i) : zwp (fM_judge σ (x : Int) (f : Int) i) (fun r σ' => zfo oMJ σ σ' ∧ (∀ k, k ≠ 26 → k ≠ 27 → k ≠ 28 → zrd σ' 273 k = zrd σ 273 k) ∧ ml σ' (abk T A bar (32 - f) f) ∧ zrd σ' 273 28 = i ∧ r = zw (lsum (abk T A bar (32 - f) f))) := by
  unfold fM_judge
  refine zwp_st (fun σ1 f1 v1 => ?_)
  refine zwp_st (fun σ2 f2 v2 => ?_)
  refine zwp_st (fun σ3 f3 v3 => ?_)
  have ff : zfo (oO 273) σ σ3 := (f1.tr f2).tr f3
  have h3 := mok_fo h ff (fun q z => by unfold oO at z; omega)
  refine zwp_mono (pM_judge_18 (32 - f) 5000 f σ3 h3 (by omega) (by omega)) (fun r σ4 ⟨m4, e⟩ => ?_)
  have hml : ml σ3 [] := by
    refine ⟨?_, ?_, ?_⟩
    · rw [v3, if_neg (by omega), v2, if_neg (by omega), v1, if_pos rfl]; rfl
    · rw [v3, if_neg (by omega), v2, if_pos rfl]; rfl
    · intro _ k b hk; simp at hk
  have h4 := m4.2.2 [] hml
  rw [List.nil_append] at h4
  refine ⟨(ff.mono (fun q z => Or.inl z)).tr m4.1, fun k k1 k2 k3 => ?_, h4, ?_, ?_⟩
  · rw [m4.2.1 k k1 k2, v3, if_neg k3, v2, if_neg k2, v1, if_neg k1]
  · rw [m4.2.1 28 (by decide) (by decide), v3, if_pos rfl, hi]
  · rw [e, h4.2.1]

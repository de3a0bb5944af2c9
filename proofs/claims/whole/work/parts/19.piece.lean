/-! MY OWN: all breaks of a piece; the class's askPiece, askPairs, askLines -/
def tag (t v w : Int) (B : List (Nat × Int)) : List Bk := B.map (fun b => (t, v, w, (b.1 : Int), b.2))
def tbk (T : List Cl) (A : Nat → Ln) (bar : Int) (t : Nat) : List Bk := tag t 0 1 (pbk T (A 0) (A 1) t bar) ++ tag t 0 2 (pbk T (A 0) (A 2) t bar) ++ tag t 0 3 (pbk T (A 0) (A 3) t bar) ++ tag t 1 2 (pbk T (A 1) (A 2) t bar) ++ tag t 1 3 (pbk T (A 1) (A 3) t bar) ++ tag t 2 3 (pbk T (A 2) (A 3) t bar) ++ tag t 0 (-1) (lbk T (A 0) t bar) ++ tag t 1 (-1) (lbk T (A 1) t bar) ++ tag t 2 (-1) (lbk T (A 2) t bar) ++ tag t 3 (-1) (lbk T (A 3) t bar)
def abk (T : List Cl) (A : Nat → Ln) (bar : Int) : Nat → Nat → List Bk
  | 0, _ => []
  | d + 1, t => tbk T A bar t ++ abk T A bar d (t + 1)
theorem lsum_tag (t v w : Int) : ∀ (B : List (Nat × Int)), lsum (tag t v w B) = bsum B
  | [] => rfl
  | b :: B => by
    show b.2 + lsum (tag t v w B) = b.2 + bsum B
    rw [lsum_tag t v w B]
def gpo (J : Nat) (B : List Bk) (σ σ' : Zm) : Prop := zfo (oJ J) σ σ' ∧ (∀ k, k ≠ 5 → k ≠ 6 → k ≠ 7 → k ≠ 8 → zrd σ' J k = zrd σ J k) ∧ zrd σ' J 6 = zw (zrd σ J 6 + lsum B) ∧ ∀ L, jl σ J L → jl σ' J (L ++ B)
theorem gpo.rf {J : Nat} {σ : Zm} : gpo J [] σ σ := by
  refine ⟨zfo.rf, fun _ _ _ _ _ => rfl, ?_, ?_⟩
  · simp [lsum, zw_rd]
  · intro L h
    simpa using h
theorem gpo.tr {J : Nat} {A B : List Bk} {σ σ1 σ2 : Zm} (h : gpo J A σ σ1) (h2 : gpo J B σ1 σ2) : gpo J (A ++ B) σ σ2 := by
  refine ⟨h.1.tr h2.1, fun k a b c d => (h2.2.1 k a b c d).trans (h.2.1 k a b c d), ?_, ?_⟩
  · rw [h2.2.2.1, h.2.2.1, lsum_ap, zw_addl, Int.add_assoc]
  · intro L hL
    have := h2.2.2.2 _ (h.2.2.2 L hL)
    rw [List.append_assoc] at this
    exact this
theorem gpo_of {J : Nat} {t v w : Int} {B : List (Nat × Int)} {σ σ' : Zm} (h : jpo oJ J t B σ σ') (hv : zrd σ J 7 = v) (hw : zrd σ J 8 = w) : gpo J (tag t v w B) σ σ' := by
  refine ⟨h.1, fun k a b _ _ => h.2.1 k a b, ?_, ?_⟩
  · rw [h.2.2.1, lsum_tag]
  · intro L hL
    have := h.2.2.2 L hL
    rw [hv, hw] at this
    exact this
theorem gpo_vw {J : Nat} {v w : Int} {σ : Zm} : gpo J [] σ (zst (zst σ J 7 v) J 8 w) := by
  refine ⟨(zfo.rf.st (Or.inl rfl)).st (Or.inl rfl), fun k a b c d => ?_, ?_, ?_⟩
  · simp (disch := omega) only [zrd_st, ifn]
  · simp (disch := omega) only [zrd_st, ifn]
    simp [lsum, zw_rd]
  · intro L h
    unfold jl at *
    simp (disch := omega) only [zrd_st, ifn, List.append_nil]
    simp at h ⊢
    exact h
theorem jok_fo {J R : Nat} {T : List Cl} {bar : Int} {B : List Bk} {σ0 σ : Zm} (h : jok J R T bar σ0) (g : gpo J B σ0 σ) : jok J R T bar σ := by
  obtain ⟨h1, h2, h3, h4, h5, h6, h7⟩ := h
  refine ⟨h1, h2, TRc_fo g.1 h2 h3, h4, ?_, h6, h7⟩
  rw [g.2.1 3 (by decide) (by decide) (by decide) (by decide)]
  exact h5
def lok (J q : Nat) (a : Ln) (σ : Zm) : Prop := zli 32 q ∧ ¬ oJ J (q + 1) ∧ ¬ oJ J (q + 2) ∧ ln 32 σ q = a ∧ lsm a
theorem lok_fo {J q : Nat} {a : Ln} {B : List Bk} {σ0 σ : Zm} (h : lok J q a σ0) (g : gpo J B σ0 σ) : lok J q a σ := by
  obtain ⟨h1, h2, h3, h4, h5⟩ := h
  exact ⟨h1, h2, h3, (ln_fo g.1 h2 h3).trans h4, h5⟩
theorem gPair {J R : Nat} {T : List Cl} {bar : Int} {σ0 σ : Zm} {B : List Bk} (hj : jok J R T bar σ0) {oa ob : Nat} {a b : Ln} (ha : lok J oa a σ0) (hb : lok J ob b σ0) {t : Nat} (ht : t < 32) (v w : Nat) (hv : v < 4) (hw : w < 4) (g : gpo J B σ0 σ) : zwp (fJ_askPair (zst (zst σ J 7 v) J 8 w) J R oa ob (t : Int)) (fun _ σ' => gpo J (B ++ tag t v w (pbk T a b t bar)) σ0 σ') := by
  have g1 : gpo J B σ0 (zst (zst σ J 7 v) J 8 w) := by
    have := g.tr (gpo_vw (J := J) (v := v) (w := w) (σ := σ))
    rw [List.append_nil] at this
    exact this
  obtain ⟨a1, a2, a3, a4, a5⟩ := lok_fo ha g1
  obtain ⟨b1, b2, b3, b4, b5⟩ := lok_fo hb g1
  refine zwp_mono (qJ_askPair (jok_fo hj g1) a5 b5 ht a1 (fun q => a2 (Or.inr (Or.inl q))) a4 b1 (fun q => b2 (Or.inr (Or.inl q))) b4) (fun r σ' h => g1.tr (gpo_of h ?_ ?_))
  · simp (disch := omega) only [zrd_st, ifn]
    simp
    exact zwj (by omega) (by omega)
  · simp (disch := omega) only [zrd_st, ifn]
    simp
    exact zwj (by omega) (by omega)
theorem gLine {J R : Nat} {T : List Cl} {bar : Int} {σ0 σ : Zm} {B : List Bk} (hj : jok J R T bar σ0) {oa : Nat} {a : Ln} (ha : lok J oa a σ0) {t : Nat} (ht : t < 32) (v : Nat) (hv : v < 4) (g : gpo J B σ0 σ) : zwp (fJ_askLine (zst (zst σ J 7 v) J 8 (-1)) J R oa (t : Int)) (fun _ σ' => gpo J (B ++ tag t v (-1) (lbk T a t bar)) σ0 σ') := by
  have g1 : gpo J B σ0 (zst (zst σ J 7 v) J 8 (-1)) := by
    have := g.tr (gpo_vw (J := J) (v := v) (w := -1) (σ := σ))
    rw [List.append_nil] at this
    exact this
  obtain ⟨a1, a2, a3, a4, a5⟩ := lok_fo ha g1
  refine zwp_mono (qJ_askLine (jok_fo hj g1) a5 ht a1 (fun q => a2 (Or.inr (Or.inl q))) (fun q => a3 (Or.inr (Or.inl q))) a4) (fun r σ' h => g1.tr (gpo_of h ?_ ?_))
  · simp (disch := omega) only [zrd_st, ifn]
    simp
    exact zwj (by omega) (by omega)
  · simp (disch := omega) only [zrd_st, ifn]
    simp
    decide
/-- whether a text has clauses of a sort -/
def hs (s : Int) : List Cl → Int
  | [] => 0
  | c :: T => if c.1 = s then 1 else hs s T
theorem brk_hs {E : Nat → Int} {s : Int} : ∀ (T : List Cl) (k : Nat), hs s T = 0 → brk E s T k = []
  | [], _, _ => rfl
  | c :: T, k, h => by
    unfold hs at h
    by_cases c1 : c.1 = s
    · rw [if_pos c1] at h; omega
    · rw [if_neg c1] at h
      unfold brk
      rw [if_neg (fun q => c1 q.1)]
      exact brk_hs T (k + 1) h
theorem hs_01 (s : Int) : ∀ (T : List Cl), hs s T = 0 ∨ hs s T = 1
  | [] => Or.inl rfl
  | c :: T => by
    unfold hs
    split
    · exact Or.inr rfl
    · exact hs_01 s T
theorem pU_has_2 {R : Nat} (s : Int) (σ : Zm) (n : Nat) (hn : n ≤ 10) (h5 : zrd σ R 5 = (n : Int)) : ∀ (T : List Cl) (m k : Nat), T.length < m → k + T.length = n → TRl σ R T k → fU_has_2 m R s (k : Int) σ = some (hs s T, σ)
  | [], m + 1, k, _, hk, _ => by
    simp only [List.length_nil] at hk
    rw [fU_has_2]
    simp only [zlet]
    rw [if_pos (by omega)]
    rfl
  | c :: T, m + 1, k, hm, hk, hT => by
    simp only [List.length_cons] at hk hm
    obtain ⟨⟨hso, -⟩, hT2⟩ := hT
    rw [fU_has_2]
    simp only [zlet]
    rw [if_neg (by omega), zckj (by omega) (by omega), Int.toNat_natCast, hso, show zw ((k : Int) + 1) = ((k + 1 : Nat) : Int) from zwj (by omega) (by omega), pU_has_2 s σ n hn h5 T m (k + 1) (by omega) (by omega) hT2]
    show _ = some ((if c.1 = s then 1 else hs s T), σ)
    by_cases c1 : c.1 = s
    · rw [ifnn c1, if_pos c1]
    · rw [if_pos c1, if_neg c1]
theorem qU_has {R : Nat} (s : Int) (σ : Zm) (T : List Cl) (h : TRc σ R T) : fU_has σ R s = some (hs s T, σ) := by
  unfold fU_has
  exact pU_has_2 s σ T.length h.2.1 h.1 T 5000 0 (by have := h.2.1; omega) (by omega) h.2.2

/-- the class's walk over a piece: all that stays the same -/
def pok (J R : Nat) (T : List Cl) (bar : Int) (o2 f : Nat) (A : Nat → Ln) (σ : Zm) : Prop := jok J R T bar σ ∧ f + 4 ≤ zLN o2 ∧ ∀ v, v < 4 → lok J (zRF o2 (f + v)) (A v) σ
theorem pJ_pairs {J R : Nat} {T : List Cl} {bar : Int} {o2 f : Nat} {A : Nat → Ln} {σ0 σ : Zm} {B : List Bk} (h : pok J R T bar o2 f A σ0) {t : Nat} (ht : t < 32) (g : gpo J B σ0 σ) (x6 : Int) (P : Int → Zm → Prop) (K : Nat → Nat → Nat → Int → Int → Int → Int → Zm → Zr) (hK : ∀ σ', gpo J (B ++ (tag t 0 1 (pbk T (A 0) (A 1) t bar) ++ tag t 0 2 (pbk T (A 0) (A 2) t bar) ++ tag t 0 3 (pbk T (A 0) (A 3) t bar) ++ tag t 1 2 (pbk T (A 1) (A 2) t bar) ++ tag t 1 3 (pbk T (A 1) (A 3) t bar) ++ tag t 2 3 (pbk T (A 2) (A 3) t bar))) σ0 σ' → zwp (K J R o2 (f : Int) (hs 0 T) x6 (t : Int) σ') P) : zwp (fJ_askPiece_41 5000 J R o2 (f : Int) (hs 0 T) x6 (t : Int) 0 σ K) P := by
  obtain ⟨hj, hf, hl⟩ := h
  have hL := pLN_le o2
  by_cases c : hs 0 T = 0
  · rw [fJ_askPiece_41]
    simp only [zwp_let]
    rw [if_pos c]
    refine hK σ ?_
    have e : ∀ a b, pbk T a b t bar = [] := by
      intro a b
      unfold pbk
      split
      · exact brk_hs T 0 c
      · rfl
    simp only [e, tag, List.map_nil, List.append_nil]
    exact g
  · have hz : zw (f : Int) = (f : Int) := zwj (by omega) (by omega)
    have z0 : zw ((f : Int) + 0) = ((f + 0 : Nat) : Int) := zwj (by omega) (by omega)
    have z1 : zw ((f : Int) + 1) = ((f + 1 : Nat) : Int) := zwj (by omega) (by omega)
    have z2 : zw ((f : Int) + 2) = ((f + 2 : Nat) : Int) := zwj (by omega) (by omega)
    have z3 : zw ((f : Int) + 3) = ((f + 3 : Nat) : Int) := zwj (by omega) (by omega)
    rw [fJ_askPiece_41]
    simp only [zwp_let]
    rw [if_neg c, if_neg (by decide), zwp_let, show zw ((0 : Int) + 1) = 1 by decide]
    rw [fJ_askPiece_58]
    simp only [zwp_let]
    rw [if_neg (by decide), zwp_let, zwp_let, z0, z1, zckj (by omega) (by omega), zckj (by omega) (by omega), Int.toNat_natCast, Int.toNat_natCast, zwp_bv, show zw ((1 : Int) + 1) = 2 by decide]
    refine zwp_mono (gPair hj (hl 0 (by decide)) (hl 1 (by decide)) ht 0 1 (by decide) (by decide) g) (fun _ σ1 g1 => ?_)
    rw [fJ_askPiece_58]
    simp only [zwp_let]
    rw [if_neg (by decide), zwp_let, zwp_let, z0, z2, zckj (by omega) (by omega), zckj (by omega) (by omega), Int.toNat_natCast, Int.toNat_natCast, zwp_bv, show zw ((2 : Int) + 1) = 3 by decide]
    refine zwp_mono (gPair hj (hl 0 (by decide)) (hl 2 (by decide)) ht 0 2 (by decide) (by decide) g1) (fun _ σ2 g2 => ?_)
    rw [fJ_askPiece_58]
    simp only [zwp_let]
    rw [if_neg (by decide), zwp_let, zwp_let, z0, z3, zckj (by omega) (by omega), zckj (by omega) (by omega), Int.toNat_natCast, Int.toNat_natCast, zwp_bv, show zw ((3 : Int) + 1) = 4 by decide]
    refine zwp_mono (gPair hj (hl 0 (by decide)) (hl 3 (by decide)) ht 0 3 (by decide) (by decide) g2) (fun _ σ3 g3 => ?_)
    rw [fJ_askPiece_58]
    simp only [zwp_let]
    rw [if_pos (by decide), show zw ((0 : Int) + 1) = 1 by decide]
    rw [fJ_askPiece_41]
    simp only [zwp_let]
    rw [if_neg c, if_neg (by decide), zwp_let, show zw ((1 : Int) + 1) = 2 by decide]
    rw [fJ_askPiece_58]
    simp only [zwp_let]
    rw [if_neg (by decide), zwp_let, zwp_let, z1, z2, zckj (by omega) (by omega), zckj (by omega) (by omega), Int.toNat_natCast, Int.toNat_natCast, zwp_bv, show zw ((2 : Int) + 1) = 3 by decide]
    refine zwp_mono (gPair hj (hl 1 (by decide)) (hl 2 (by decide)) ht 1 2 (by decide) (by decide) g3) (fun _ σ4 g4 => ?_)
    rw [fJ_askPiece_58]
    simp only [zwp_let]
    rw [if_neg (by decide), zwp_let, zwp_let, z1, z3, zckj (by omega) (by omega), zckj (by omega) (by omega), Int.toNat_natCast, Int.toNat_natCast, zwp_bv, show zw ((3 : Int) + 1) = 4 by decide]
    refine zwp_mono (gPair hj (hl 1 (by decide)) (hl 3 (by decide)) ht 1 3 (by decide) (by decide) g4) (fun _ σ5 g5 => ?_)
    rw [fJ_askPiece_58]
    simp only [zwp_let]
    rw [if_pos (by decide), show zw ((1 : Int) + 1) = 2 by decide]
    rw [fJ_askPiece_41]
    simp only [zwp_let]
    rw [if_neg c, if_neg (by decide), zwp_let, show zw ((2 : Int) + 1) = 3 by decide]
    rw [fJ_askPiece_58]
    simp only [zwp_let]
    rw [if_neg (by decide), zwp_let, zwp_let, z2, z3, zckj (by omega) (by omega), zckj (by omega) (by omega), Int.toNat_natCast, Int.toNat_natCast, zwp_bv, show zw ((3 : Int) + 1) = 4 by decide]
    refine zwp_mono (gPair hj (hl 2 (by decide)) (hl 3 (by decide)) ht 2 3 (by decide) (by decide) g5) (fun _ σ6 g6 => ?_)
    rw [fJ_askPiece_58]
    simp only [zwp_let]
    rw [if_pos (by decide), show zw ((2 : Int) + 1) = 3 by decide]
    rw [fJ_askPiece_41]
    simp only [zwp_let]
    rw [if_neg c, if_neg (by decide), zwp_let, show zw ((3 : Int) + 1) = 4 by decide]
    rw [fJ_askPiece_58]
    simp only [zwp_let]
    rw [if_pos (by decide), show zw ((3 : Int) + 1) = 4 by decide]
    rw [fJ_askPiece_41]
    simp only [zwp_let]
    rw [if_neg c, if_pos (by decide)]
    refine hK σ6 ?_
    simp only [List.append_assoc] at g6 ⊢
    exact g6
theorem pJ_lines {J R : Nat} {T : List Cl} {bar : Int} {o2 f : Nat} {A : Nat → Ln} {σ0 σ : Zm} {B : List Bk} (h : pok J R T bar o2 f A σ0) {t : Nat} (ht : t < 32) (g : gpo J B σ0 σ) (x5 : Int) (P : Int → Zm → Prop) (K : Nat → Nat → Nat → Int → Int → Int → Int → Zm → Zr) (hK : ∀ σ', gpo J (B ++ (tag t 0 (-1) (lbk T (A 0) t bar) ++ tag t 1 (-1) (lbk T (A 1) t bar) ++ tag t 2 (-1) (lbk T (A 2) t bar) ++ tag t 3 (-1) (lbk T (A 3) t bar))) σ0 σ' → zwp (K J R o2 (f : Int) x5 (hs 1 T) (t : Int) σ') P) : zwp (fJ_askPiece_110 5000 J R o2 (f : Int) x5 (hs 1 T) (t : Int) 0 σ K) P := by
  obtain ⟨hj, hf, hl⟩ := h
  have hL := pLN_le o2
  by_cases c : hs 1 T = 0
  · rw [fJ_askPiece_110]
    simp only [zwp_let]
    rw [if_pos c]
    refine hK σ ?_
    have e : ∀ a, lbk T a t bar = [] := by
      intro a
      unfold lbk
      split
      · exact brk_hs T 0 c
      · rfl
    simp only [e, tag, List.map_nil, List.append_nil]
    exact g
  · have hz : zw (f : Int) = (f : Int) := zwj (by omega) (by omega)
    have z0 : zw ((f : Int) + 0) = ((f + 0 : Nat) : Int) := zwj (by omega) (by omega)
    have z1 : zw ((f : Int) + 1) = ((f + 1 : Nat) : Int) := zwj (by omega) (by omega)
    have z2 : zw ((f : Int) + 2) = ((f + 2 : Nat) : Int) := zwj (by omega) (by omega)
    have z3 : zw ((f : Int) + 3) = ((f + 3 : Nat) : Int) := zwj (by omega) (by omega)
    rw [fJ_askPiece_110]
    simp only [zwp_let]
    rw [if_neg c, if_neg (by decide), zwp_let, zwp_let, z0, zckj (by omega) (by omega), Int.toNat_natCast, zwp_bv, show zw ((0 : Int) + 1) = 1 by decide]
    refine zwp_mono (gLine hj (hl 0 (by decide)) ht 0 (by decide) g) (fun _ σ1 g1 => ?_)
    rw [fJ_askPiece_110]
    simp only [zwp_let]
    rw [if_neg c, if_neg (by decide), zwp_let, zwp_let, z1, zckj (by omega) (by omega), Int.toNat_natCast, zwp_bv, show zw ((1 : Int) + 1) = 2 by decide]
    refine zwp_mono (gLine hj (hl 1 (by decide)) ht 1 (by decide) g1) (fun _ σ2 g2 => ?_)
    rw [fJ_askPiece_110]
    simp only [zwp_let]
    rw [if_neg c, if_neg (by decide), zwp_let, zwp_let, z2, zckj (by omega) (by omega), Int.toNat_natCast, zwp_bv, show zw ((2 : Int) + 1) = 3 by decide]
    refine zwp_mono (gLine hj (hl 2 (by decide)) ht 2 (by decide) g2) (fun _ σ3 g3 => ?_)
    rw [fJ_askPiece_110]
    simp only [zwp_let]
    rw [if_neg c, if_neg (by decide), zwp_let, zwp_let, z3, zckj (by omega) (by omega), Int.toNat_natCast, zwp_bv, show zw ((3 : Int) + 1) = 4 by decide]
    refine zwp_mono (gLine hj (hl 3 (by decide)) ht 3 (by decide) g3) (fun _ σ4 g4 => ?_)
    rw [fJ_askPiece_110]
    simp only [zwp_let]
    rw [if_neg c, if_pos (by decide)]
    refine hK σ4 ?_
    simp only [List.append_assoc] at g4 ⊢
    exact g4
theorem pJ_askPiece_31 {J R : Nat} {T : List Cl} {bar : Int} {o2 f : Nat} {A : Nat → Ln} {σ0 : Zm} (h : pok J R T bar o2 f A σ0) : ∀ (d m t : Nat) (σ : Zm) (B : List Bk), d < m → t + d = 32 → gpo J B σ0 σ → zwp (fJ_askPiece_31 m J R o2 (f : Int) (hs 0 T) (hs 1 T) (t : Int) σ) (fun _ σ' => gpo J (B ++ abk T A bar d t) σ0 σ')
  | 0, m + 1, t, σ, B, _, ht, g => by
    rw [fJ_askPiece_31]
    simp only [zwp_let]
    rw [if_pos (by omega), zwp_some]
    unfold abk
    rw [List.append_nil]
    exact g
  | d + 1, m + 1, t, σ, B, hm, ht, g => by
    rw [fJ_askPiece_31]
    simp only [zwp_let]
    rw [if_neg (by omega)]
    refine pJ_pairs h (by omega) g _ _ _ (fun σ1 g1 => ?_)
    refine pJ_lines h (by omega) g1 _ _ _ (fun σ2 g2 => ?_)
    rw [show zw ((t : Int) + 1) = ((t + 1 : Nat) : Int) from zwj (by omega) (by omega)]
    refine zwp_mono (pJ_askPiece_31 h d m (t + 1) σ2 _ (by omega) (by omega) g2) (fun r σ' g3 => ?_)
    unfold abk tbk
    simp only [List.append_assoc] at g3 ⊢
    exact g3
theorem qJ_askPiece {J R : Nat} {T : List Cl} {bar : Int} {o2 f : Nat} {A : Nat → Ln} {σ : Zm} (h : pok J R T bar o2 f A σ) (t : Nat) (ht : t ≤ 32) : zwp (fJ_askPiece σ J R o2 (f : Int) (t : Int)) (fun _ σ' => gpo J (abk T A bar (32 - t) t) σ σ') := by
  have hL := pLN_le o2
  have h2 := h.2.1
  unfold fJ_askPiece
  rw [if_neg (by omega), show zw ((f : Int) + 4) = ((f + 4 : Nat) : Int) from zwj (by omega) (by omega), if_pos (by omega), zwp_bi, qU_has 0 σ T h.1.2.2.1, zwp_some, zwp_bi, qU_has 1 σ T h.1.2.2.1, zwp_some]
  have e : ∀ s, zw (hs s T) = hs s T := by
    intro s
    rcases hs_01 s T with q | q <;> rw [q] <;> decide
  rw [e, e]
  have := pJ_askPiece_31 h (32 - t) 5000 t σ [] (by omega) (by omega) gpo.rf
  exact this

/-! MY OWN: whose, endings -/
def hst (D : Nat → Int) : Nat → Int × Int
  | 0 => (-1, -1)
  | h + 1 => if D h < 0 then hst D h else if (hst D h).1 < 0 ∨ D h < (hst D h).2 then ((h : Int), D h) else hst D h
theorem hst_bd (D : Nat → Int) : ∀ n : Nat, (((hst D n).1 = -1 ∧ (hst D n).2 = -1) ∨ (0 ≤ (hst D n).1 ∧ (hst D n).1 < n ∧ 0 ≤ (hst D n).2))
  | 0 => Or.inl ⟨rfl, rfl⟩
  | n + 1 => by
    have := hst_bd D n
    unfold hst
    split
    · omega
    · split
      · right
        simp only []
        omega
      · omega
def hdv (V : Nat → Ln) (N : Nat → Int) (p : Nat) (h : Nat) : Int := dsv V (2 ^ p) (clr (pbits N h) p)
theorem pbits_lt (N : Nat → Int) (h : Int) : pbits N h < 16 := by
  unfold pbits
  split <;> split <;> split <;> split <;> omega
theorem pX_whose_39 {w : Wd} (g : GI w) {p : Nat} (hp : p < 4) (x2 : Int) (σ0 : Zm) (h0 : XI w σ0) : ∀ (d m h : Nat) (σ : Zm), d < m → h + d = 4 → zfo (fun q => oT 218 q ∨ oT 221 q) σ0 σ → lrn 218 (wV w) (2 ^ p) 101 σ → zwp (fX_whose_39 m (p : Int) x2 (hst (hdv (wV w) (wN w) p) h).1 (hst (hdv (wV w) (wN w) p) h).2 (h : Int) σ) (fun r σ' => zfo (fun q => oT 218 q ∨ oT 221 q) σ0 σ' ∧ r = if x2 = 0 then (hst (hdv (wV w) (wN w) p) 4).1 else (hst (hdv (wV w) (wN w) p) 4).2)
  | 0, m + 1, h, σ, _, hh, hf, hl => by
    have : h = 4 := by omega
    subst this
    rw [fX_whose_39]
    simp only [zwp_let]
    rw [if_pos (by decide)]
    by_cases c : x2 = 0
    · rw [ifnn c, zwp_some, if_pos c]; exact ⟨hf, rfl⟩
    · rw [if_pos c, zwp_some, if_neg c]; exact ⟨hf, rfl⟩
  | d + 1, m + 1, h, σ, hm, hh, hf, hl => by
    have hb := hst_bd (hdv (wV w) (wN w) p) h
    have hp16 := pbits_lt (wN w) (h : Int)
    have hcl := clr_le (pbits (wN w) (h : Int)) p
    have hdb := dsv_bd (wV w) (2 ^ p) (clr (pbits (wN w) (h : Int)) p)
    have hX : XS 1 σ (wV w) (wU w) (wN w) := XS_fo h0.1 hf (fun q a b => by unfold oT; omega)
    rw [fX_whose_39]
    simp only [zwp_let]
    rw [if_neg (by omega), zbi_eq (qS_piecesOf σ (wN w) hX.2.2 (h : Int)), zwj (a := ((pbits (wN w) (h : Int) : Nat) : Int)) (by omega) (by omega), zclr (by omega) (by omega)]
    refine xLearn g hX.1 (Or.inr rfl) (by omega) (by omega) (fun σ1 f1 h1 l1 => ?_)
    have hl1 : lrn 218 (wV w) (2 ^ p) 101 σ1 := lrn_fo hl f1 (by unfold oT; omega) (by unfold oT; omega) (by unfold oT; omega)
    rw [zbi_eq (qT_dist hl1 l1), show zw ((h : Int) + 1) = ((h + 1 : Nat) : Int) by rw [zwj (by omega) (by omega)]; omega, zwj (a := dsv (wV w) (2 ^ p) (clr (pbits (wN w) (h : Int)) p)) (by omega) (by omega)]
    have ih := pX_whose_39 g hp x2 σ0 h0 d m (h + 1) σ1 (by omega) (by omega) (hf.tr (f1.mono (fun q z => Or.inr z))) hl1
    have e : hst (hdv (wV w) (wN w) p) (h + 1) = if hdv (wV w) (wN w) p h < 0 then hst (hdv (wV w) (wN w) p) h else if (hst (hdv (wV w) (wN w) p) h).1 < 0 ∨ hdv (wV w) (wN w) p h < (hst (hdv (wV w) (wN w) p) h).2 then ((h : Int), hdv (wV w) (wN w) p h) else hst (hdv (wV w) (wN w) p) h := rfl
    have e2 : hdv (wV w) (wN w) p h = dsv (wV w) (2 ^ p) (clr (pbits (wN w) (h : Int)) p) := rfl
    rw [e2] at e
    by_cases c1 : dsv (wV w) (2 ^ p) (clr (pbits (wN w) (h : Int)) p) = -1
    · rw [if_pos c1]
      rw [e, if_pos (by omega)] at ih
      exact ih
    · rw [if_neg c1]
      rw [if_neg (by omega)] at e
      by_cases c2 : (hst (hdv (wV w) (wN w) p) h).1 = -1
      · rw [if_pos c2]
        rw [e, if_pos (Or.inl (by omega))] at ih
        exact ih
      · rw [if_neg c2]
        by_cases c3 : (hst (hdv (wV w) (wN w) p) h).2 ≤ dsv (wV w) (2 ^ p) (clr (pbits (wN w) (h : Int)) p)
        · rw [if_pos c3]
          rw [e, if_neg (by omega)] at ih
          exact ih
        · rw [if_neg c3]
          rw [e, if_pos (Or.inr (by omega))] at ih
          exact ih
/-- the others of a hand, to the reference -/
theorem pM_whose_38 {N : Nat → Int} {p : Nat} (hp : p < 4) (σ : Zm) (hN : ∀ k, k < 4 → zrd σ 274 (610 + k) = N (10 + k)) (x2 x3 x4 x5 : Int) {K : Int → Int → Int → Int → Int → Int → Zm → Zr} : fM_whose_38 5000 (p : Int) x2 x3 x4 x5 0 0 σ K = K (p : Int) x2 x3 x4 x5 ((clr (pbits N x5) p : Nat) : Int) σ := by
  have st : ∀ i : Nat, i < 4 → ∀ x : Int, ∀ m : Nat, fM_whose_38 (m + 1) (p : Int) x2 x3 x4 x5 x (i : Int) σ K = fM_whose_38 m (p : Int) x2 x3 x4 x5 (if i = p then x else if N (10 + i) = x5 then zor x (zshl 1 (i : Int)) else x) ((i + 1 : Nat) : Int) σ K := by
    intro i hi x m
    rw [fM_whose_38]
    dsimp only [zlet]
    rw [if_neg (by omega), show zw ((i : Int) + 1) = ((i + 1 : Nat) : Int) from zwj (by omega) (by omega), show zw (610 + (i : Int)) = ((610 + i : Nat) : Int) from zwj (by omega) (by omega)]
    by_cases c : i = p
    · rw [if_pos (by omega), if_pos c]
    · rw [if_neg (by omega), if_neg c, zckj (by omega) (by omega), Int.toNat_natCast, hN i hi]
      by_cases c2 : N (10 + i) = x5
      · rw [ifnn c2, if_pos c2]
      · rw [if_pos c2, if_neg c2]
  rw [show fM_whose_38 5000 (p : Int) x2 x3 x4 x5 0 0 σ K = fM_whose_38 (4999 + 1) (p : Int) x2 x3 x4 x5 0 ((0 : Nat) : Int) σ K from rfl, st 0 (by omega), st 1 (by omega) _ 4998, st 2 (by omega) _ 4997, st 3 (by omega) _ 4996, fM_whose_38]
  dsimp only [zlet]
  rw [if_pos (by decide)]
  congr 1
  unfold pbits
  have e0 : N (10 + 0) = N 10 := rfl
  rcases (show p = 0 ∨ p = 1 ∨ p = 2 ∨ p = 3 by omega) with e | e | e | e <;> subst e <;> by_cases c0 : N 10 = x5 <;> by_cases c1 : N 11 = x5 <;> by_cases c2 : N 12 = x5 <;> by_cases c3 : N 13 = x5 <;> simp only [Nat.add_zero, Nat.reduceAdd, c0, c1, c2, c3, if_true, if_false, reduceIte] <;> decide +kernel
theorem pM_whose_26 {w : Wd} (g : GI w) {p : Nat} (hp : p < 4) (x2 : Int) (σ0 : Zm) (h0 : MI w σ0) : ∀ (d m h : Nat) (σ : Zm), d < m → h + d = 4 → zfo oMS σ0 σ → k38 σ0 σ → zwp (fM_whose_26 m (p : Int) x2 (hst (hdv (wV w) (wN w) p) h).1 (hst (hdv (wV w) (wN w) p) h).2 (h : Int) σ) (fun r σ' => zfo oMS σ0 σ' ∧ k38 σ0 σ' ∧ r = if x2 = 0 then (hst (hdv (wV w) (wN w) p) 4).1 else (hst (hdv (wV w) (wN w) p) 4).2)
  | 0, m + 1, h, σ, _, hh, hf, hl => by
    have : h = 4 := by omega
    subst this
    rw [fM_whose_26]
    simp only [zwp_let]
    rw [if_pos (by decide)]
    by_cases c : x2 = 0
    · rw [ifnn c, zwp_some, if_pos c]; exact ⟨hf, hl, rfl⟩
    · rw [if_pos c, zwp_some, if_neg c]; exact ⟨hf, hl, rfl⟩
  | d + 1, m + 1, h, σ, hm, hh, hf, hl => by
    have hb := hst_bd (hdv (wV w) (wN w) p) h
    have hp16 := pbits_lt (wN w) (h : Int)
    have hcl := clr_le (pbits (wN w) (h : Int)) p
    have h16 := p2_16 hp
    have hdb := dsv_bd (wV w) (2 ^ p) (clr (pbits (wN w) (h : Int)) p)
    have hM : MI w σ := MI_fo h0 hf (by unfold oMS oMLp oML oSh; omega) (by unfold oMS oMLp oML oSh; omega) (by unfold oMS oMLp oML oSh; omega)
    rw [fM_whose_26]
    simp only [zwp_let]
    rw [if_neg (by omega), pM_whose_38 hp σ hM.1.2.2.2.1, zshl_1 (by omega), zwp_bi]
    refine zwp_mono (qM_apartOf g h16 (by omega) σ hM) (fun r σ1 ⟨f1, k1, h1, e1⟩ => ?_)
    rw [e1, show zw ((h : Int) + 1) = ((h + 1 : Nat) : Int) by rw [zwj (by omega) (by omega)]; omega, zwj (a := dsv (wV w) (2 ^ p) (clr (pbits (wN w) (h : Int)) p)) (by omega) (by omega)]
    have ih := pM_whose_26 g hp x2 σ0 h0 d m (h + 1) σ1 (by omega) (by omega) (hf.tr f1) (hl.tr k1)
    have e : hst (hdv (wV w) (wN w) p) (h + 1) = if hdv (wV w) (wN w) p h < 0 then hst (hdv (wV w) (wN w) p) h else if (hst (hdv (wV w) (wN w) p) h).1 < 0 ∨ hdv (wV w) (wN w) p h < (hst (hdv (wV w) (wN w) p) h).2 then ((h : Int), hdv (wV w) (wN w) p h) else hst (hdv (wV w) (wN w) p) h := rfl
    have e2 : hdv (wV w) (wN w) p h = dsv (wV w) (2 ^ p) (clr (pbits (wN w) (h : Int)) p) := rfl
    rw [e2] at e
    by_cases c1 : dsv (wV w) (2 ^ p) (clr (pbits (wN w) (h : Int)) p) < 0
    · rw [if_pos c1]
      rw [e, if_pos (by omega)] at ih
      exact ih
    · rw [if_neg c1]
      rw [if_neg (by omega)] at e
      by_cases c2 : (hst (hdv (wV w) (wN w) p) h).2 < 0
      · rw [if_pos c2]
        rw [e, if_pos (Or.inl (by omega))] at ih
        exact ih
      · rw [if_neg c2]
        by_cases c3 : dsv (wV w) (2 ^ p) (clr (pbits (wN w) (h : Int)) p) < (hst (hdv (wV w) (wN w) p) h).2
        · rw [if_pos c3]
          rw [e, if_pos (Or.inr (by omega))] at ih
          exact ih
        · rw [if_neg c3]
          rw [e, if_neg (by omega)] at ih
          exact ih
theorem nX_whose {w : Wd} {σ : Zm} (g : GI w) (hX : XI w σ) (x1 x2 : Int) (c : ¬ ((0 ≤ x1 ∧ x1 ≤ 3) ∧ (0 ≤ x2 ∧ x2 ≤ 1))) : fX_whose σ x1 x2 = some ((-1), σ) := by
  unfold fX_whose
  by_cases c0 : 0 ≤ x1 ∧ x1 ≤ 3
  · rw [xPiece_t c0, if_neg (by decide)]
    by_cases c1 : 0 ≤ x2 ∧ x2 ≤ 1
    · rw [pwithin_t c1, if_pos (by decide)]
      exact absurd (by grind) c
    · rw [pwithin_f c1, if_neg (by decide)]
  · rw [xPiece_f c0, if_pos rfl]
theorem nM_whose {w : Wd} {σ : Zm} (g : GI w) (hM : MI w σ) (x1 x2 : Int) (c : ¬ ((0 ≤ x1 ∧ x1 ≤ 3) ∧ (0 ≤ x2 ∧ x2 ≤ 1))) : fM_whose σ x1 x2 = some ((-1), σ) := by
  unfold fM_whose
  by_cases c0 : 0 ≤ x1 ∧ x1 ≤ 3
  · rw [mPiece_t c0, if_neg (by decide)]
    by_cases c1 : 0 ≤ x2 ∧ x2 ≤ 1
    · rw [mIn_t c1, if_pos (by decide)]
      exact absurd (by grind) c
    · rw [mIn_f c1, if_neg (by decide)]
  · rw [mPiece_f c0, if_pos rfl]
theorem st_whose (x1 x2 : Int) : St (fun σ => fX_whose σ x1 x2) (fun σ => fM_whose σ x1 x2) := by
  intro σ h
  have hI := h
  obtain ⟨w, p, g, gp, hX, hM, hXT, hMP⟩ := h
  by_cases c : (0 ≤ x1 ∧ x1 ≤ 3) ∧ (0 ≤ x2 ∧ x2 ≤ 1)
  · obtain ⟨c1, c2⟩ := c
    obtain ⟨x, rfl, hx⟩ := nat_of (x := x1) (n := 4) (by omega)
    have h16 := p2_16 hx
    show zwp (fX_whose σ (x : Int) x2) _
    unfold fX_whose
    rw [xPiece_t c1, if_neg (by decide), pwithin_t c2, if_pos (by decide), zshl_1 (by omega)]
    refine xLearn g hX.1.1 (Or.inl rfl) h16 (by omega) (fun σ1 f1 h1 l1 => ?_)
    have hX1 : XI w σ1 := XI_fo hX f1 (fun q a => by unfold oT; omega) (fun q a b => by unfold oT; omega)
    refine zwp_mono (pX_whose_39 g hx x2 σ1 hX1 4 5000 0 σ1 (by omega) (by omega) zfo.rf l1) (fun r σ2 ⟨f2, e2⟩ => ?_)
    have g1 : zfo scX σ σ2 := (zIn f1 (fun q z => oT_sc (Or.inl rfl) z)).tr (zIn f2 (fun q z => by rcases z with z | z; exact oT_sc (Or.inl rfl) z; exact oT_sc (Or.inr rfl) z))
    have hM1 := MI_sX hM g1
    show zwp (fM_whose σ2 (x : Int) x2) _
    unfold fM_whose
    rw [mPiece_t c1, if_neg (by decide), mIn_t c2, if_pos (by decide)]
    refine zwp_mono (pM_whose_26 g hx x2 σ2 hM1 4 5000 0 σ2 (by omega) (by omega) zfo.rf k38.rf) (fun r2 σ3 ⟨f3, k3, e3⟩ => ?_)
    exact ⟨by rw [e2, e3], Inv_sc hI g1 (f3.mono (fun q z => oMS_sc z)) (fun k a b => k3 k (by omega))⟩
  · exact St_neg hI (nX_whose g hX x1 x2 c) (nM_whose g hM x1 x2 c)

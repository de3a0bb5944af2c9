/-! MY OWN: the reference's table of made notes -/
def VL (T : List Cl) (W : Nat → Ln) (vv e : Nat) (bar last : Int) (n j be ah : Nat) : Int := hmn (cst T W vv e bar) (klo last) (kmn last) (n - j) j (last - 7 + (be : Int)) (last - 7 + (ah : Int))
def HF (T : List Cl) (W : Nat → Ln) (vv e : Nat) (bar last : Int) (n j be ah : Nat) : Nat → Int := hmf (cst T W vv e bar) (klo last) (kmn last) (n - j - 1) j (last - 7 + (be : Int)) (last - 7 + (ah : Int))
def tv (last : Int) (j be ah : Nat) : Prop := (be < 15 ∧ ah < 15) ∧ (0 ≤ last - 7 + (be : Int) ∧ last - 7 + (be : Int) ≤ 60) ∧ (0 ≤ last - 7 + (ah : Int) ∧ last - 7 + (ah : Int) ≤ 60) ∧ (j = 0 → ah = 7) ∧ (j ≤ 1 → be = 7)
def mbs (last : Int) (P : Nat → Int) : Nat → Int × Int
  | 0 => (-1, 0)
  | x + 1 => if 0 ≤ last - 7 + (x : Int) ∧ last - 7 + (x : Int) ≤ 60 then (if (mbs last P x).1 < 0 ∨ P x < (mbs last P x).2 then ((x : Int), P x) else mbs last P x) else mbs last P x
theorem klo_ok {last : Int} (hl : 0 ≤ last ∧ last ≤ 60) : ∃ off : Nat, klo last = last - 7 + (off : Int) ∧ 1 ≤ kmn last ∧ off + kmn last ≤ 15 ∧ klo last + (kmn last : Int) ≤ 61 ∧ 0 ≤ klo last ∧ (off = 0 ∨ klo last = 0) ∧ (∀ x : Nat, x < 15 → (off + kmn last ≤ x → 60 < last - 7 + (x : Int))) := by
  have e1 : klo last = max 0 (last - 7) := rfl
  have e2 : kmn last = (min 60 (last + 7) - klo last + 1).toNat := rfl
  refine ⟨(klo last - (last - 7)).toNat, by omega, by omega, by omega, by omega, by omega, by omega, fun x _ _ => by omega⟩
theorem mbs_bst {last : Int} {off many : Nat} {lo : Int} (h1 : lo = last - 7 + (off : Int)) (h2 : 1 ≤ many) (h4 : lo + (many : Int) ≤ 61) (h5 : 0 ≤ lo) (h6 : off = 0 ∨ lo = 0) (h7 : ∀ x : Nat, x < 15 → (off + many ≤ x → 60 < last - 7 + (x : Int))) (P : Nat → Int) (hP : ∀ x, 0 ≤ P x ∧ P x < 2147483647) : ∀ n : Nat, n ≤ 15 → (n ≤ off → mbs last P n = (-1, 0)) ∧ (off < n → mbs last P n = ((off : Int) + (bst (fun c => P (off + c)) (min (n - off) many)).2, (bst (fun c => P (off + c)) (min (n - off) many)).1))
  | 0, _ => ⟨fun _ => rfl, fun h => by omega⟩
  | n + 1, hn => by
    obtain ⟨i1, i2⟩ := mbs_bst h1 h2 h4 h5 h6 h7 P hP n (by omega)
    have e : mbs last P (n + 1) = if 0 ≤ last - 7 + (n : Int) ∧ last - 7 + (n : Int) ≤ 60 then (if (mbs last P n).1 < 0 ∨ P n < (mbs last P n).2 then ((n : Int), P n) else mbs last P n) else mbs last P n := rfl
    refine ⟨fun h => ?_, fun h => ?_⟩
    · rw [e, if_neg (by omega)]
      exact i1 (by omega)
    · by_cases c0 : n = off
      · have i1' := i1 (by omega)
        rw [e, if_pos (by omega), i1', if_pos (Or.inl (by decide)), show n + 1 - off = 1 by omega, Nat.min_eq_left (by omega)]
        have e1 : bst (fun c => P (off + c)) 1 = (P off, ((0 : Nat) : Int)) := if_pos (c := P (off + 0) < 2147483647) (hP _).2
        rw [e1, c0]
        refine Prod.ext ?_ rfl
        show (off : Int) = (off : Int) + ((0 : Nat) : Int)
        omega
      · have i2' := i2 (by omega)
        by_cases c1 : n - off < many
        · have hbb := bst_bd (fun c => P (off + c)) (fun k => (hP _).1) (n - off)
          rw [Nat.min_eq_left (by omega)] at i2'
          rw [Nat.min_eq_left (by omega), show n + 1 - off = (n - off) + 1 by omega]
          have e1 : bst (fun c => P (off + c)) ((n - off) + 1) = if P (off + (n - off)) < (bst (fun c => P (off + c)) (n - off)).1 then (P (off + (n - off)), ((n - off : Nat) : Int)) else bst (fun c => P (off + c)) (n - off) := rfl
          rw [e, if_pos (by omega), i2', e1, show off + (n - off) = n by omega]
          by_cases c2 : P n < (bst (fun c => P (off + c)) (n - off)).1
          · rw [if_pos (Or.inr c2), if_pos c2]
            refine Prod.ext ?_ rfl
            show (n : Int) = (off : Int) + ((n - off : Nat) : Int)
            omega
          · rw [if_neg (fun q => by rcases q with q | q; simp only [] at q; omega; exact c2 q), if_neg c2]
        · have h7' := h7 n (by omega) (by omega)
          rw [e, if_neg (by omega), i2', Nat.min_eq_right (by omega), Nat.min_eq_right (by omega)]
theorem HF_bd {T : List Cl} (hT : T.length ≤ 10) {W : Nat → Ln} {vv e : Nat} {bar last : Int} (hl : 0 ≤ last ∧ last ≤ 60) {n j be ah : Nat} (hn : n ≤ 5) (x : Nat) : 0 ≤ HF T W vv e bar last n j be ah x ∧ HF T W vv e bar last n j be ah x < 2147483647 := by
  obtain ⟨off, k1, k2, _⟩ := klo_ok hl
  exact hmf_lt hT k2 (by omega) x
theorem VL_bd {T : List Cl} (hT : T.length ≤ 10) {W : Nat → Ln} {vv e : Nat} {bar last : Int} (hl : 0 ≤ last ∧ last ≤ 60) {n j be ah : Nat} (hn : n ≤ 5) : 0 ≤ VL T W vv e bar last n j be ah ∧ VL T W vv e bar last n j be ah ≤ 250000 := by
  obtain ⟨off, k1, k2, _⟩ := klo_ok hl
  have := hmn_bd (lo := klo last) k2 (fun j p2 p1 p => cst_bd hT W vv e bar j p2 p1 p) (n - j) j (last - 7 + (be : Int)) (last - 7 + (ah : Int)) (by omega)
  unfold VL
  omega
/-- what the reference adds up for a note: pitch x of fifteen -/
def TP (T : List Cl) (W : Nat → Ln) (vv e : Nat) (bar last : Int) (n j be ah x : Nat) : Int := cst T W vv e bar j (last - 7 + (be : Int)) (last - 7 + (ah : Int)) (last - 7 + (x : Int)) + hmn (cst T W vv e bar) (klo last) (kmn last) (n - j - 1) (j + 1) (last - 7 + (ah : Int)) (last - 7 + (x : Int))
theorem TP_bd {T : List Cl} (hT : T.length ≤ 10) {W : Nat → Ln} {vv e : Nat} {bar last : Int} (hl : 0 ≤ last ∧ last ≤ 60) {n j be ah : Nat} (hn : n ≤ 5) (x : Nat) : 0 ≤ TP T W vv e bar last n j be ah x ∧ TP T W vv e bar last n j be ah x ≤ 300000 := by
  obtain ⟨off, k1, k2, _⟩ := klo_ok hl
  have h1 := cst_bd hT W vv e bar j (last - 7 + (be : Int)) (last - 7 + (ah : Int)) (last - 7 + (x : Int))
  have h2 := hmn_bd (lo := klo last) k2 (fun j p2 p1 p => cst_bd hT W vv e bar j p2 p1 p) (n - j - 1) (j + 1) (last - 7 + (ah : Int)) (last - 7 + (x : Int)) (by omega)
  unfold TP
  omega
theorem mbs_TP {T : List Cl} (hT : T.length ≤ 10) {W : Nat → Ln} {vv e : Nat} {bar last : Int} (hl : 0 ≤ last ∧ last ≤ 60) {n j be ah : Nat} (hn : n ≤ 5) (hj : j < n) : mbs last (TP T W vv e bar last n j be ah) 15 = (klo last - (last - 7) + (bst (HF T W vv e bar last n j be ah) (kmn last)).2, VL T W vv e bar last n j be ah) := by
  obtain ⟨off, k1, k2, k3, k4, k5, k6, k7⟩ := klo_ok hl
  have h := (mbs_bst k1 k2 k4 k5 k6 k7 (TP T W vv e bar last n j be ah) (fun x => by have := TP_bd hT (W := W) (vv := vv) (e := e) (bar := bar) hl (j := j) (be := be) (ah := ah) hn x; omega) 15 (by omega)).2 (by omega)
  have e2 : (fun c => TP T W vv e bar last n j be ah (off + c)) = HF T W vv e bar last n j be ah := by
    funext c
    unfold TP HF hmf
    rw [k1, show last - 7 + ((off + c : Nat) : Int) = last - 7 + (off : Int) + (c : Int) by omega]
  rw [h, Nat.min_eq_right (by omega), e2]
  refine Prod.ext ?_ ?_
  · show (off : Int) + _ = klo last - (last - 7) + _
    omega
  · show (bst (HF T W vv e bar last n j be ah) (kmn last)).1 = VL T W vv e bar last n j be ah
    unfold VL
    rw [show n - j = (n - j - 1) + 1 by omega]
    rfl
theorem mbs_rng (last : Int) (P : Nat → Int) (hP : ∀ x, 0 ≤ P x ∧ P x ≤ 300000) : ∀ n : Nat, -1 ≤ (mbs last P n).1 ∧ (mbs last P n).1 < max n 1 ∧ 0 ≤ (mbs last P n).2 ∧ (mbs last P n).2 ≤ 300000
  | 0 => ⟨Int.le_refl _, by show (-1 : Int) < _; omega, Int.le_refl _, by show (0 : Int) ≤ _; omega⟩
  | n + 1 => by
    have := mbs_rng last P hP n
    have := hP n
    unfold mbs
    split
    · split
      · simp only []; omega
      · omega
    · omega
theorem pM_bestAt_9 {x : Nat} {T : List Cl} {bar : Int} {W : Nat → Ln} {vv e n : Nat} {last : Int} (hT : T.length ≤ 10) (hs : KS W vv e n last) {j be ah : Nat} (hj : j < n) (hv : tv last j be ah) (σ0 : Zm) (ht : ∀ y, j + 1 < n → tv last (j + 1) ah y → zrd σ0 290 (225 * (j + 1) + 15 * ah + y) = VL T W vv e bar last n (j + 1) ah y) (P : Int → Zm → Prop) (K : Int → Int → Int → Int → Int → Zm → Zr) (hK : ∀ σ', zg oMg σ0 σ' → KM x T bar W vv e σ' → zwp (K (j : Int) (be : Int) (ah : Int) (mbs last (TP T W vv e bar last n j be ah) 15).1 (mbs last (TP T W vv e bar last n j be ah) 15).2 σ') P) : ∀ (d m y : Nat) (σ : Zm), d < m → y + d = 15 → zg oMg σ0 σ → KM x T bar W vv e σ → zwp (fM_bestAt_9 m (x : Int) (vv : Int) (e : Int) (n : Int) (j : Int) last (be : Int) (ah : Int) (mbs last (TP T W vv e bar last n j be ah) y).1 (mbs last (TP T W vv e bar last n j be ah) y).2 (y : Int) σ K) P
  | 0, m + 1, y, σ, _, hy, h1, h2 => by
    have : y = 15 := by omega
    subst this
    rw [fM_bestAt_9]
    simp only [zwp_let]
    rw [if_pos (by decide)]
    exact hK σ h1 h2
  | d + 1, m + 1, y, σ, hm, hy, h1, h2 => by
    have hs' := hs
    obtain ⟨s1, s2, s3, s4, s5, s6, s7, s8⟩ := hs
    have hl : 0 ≤ last ∧ last ≤ 60 := ⟨s7, s8⟩
    have hTP := fun y => TP_bd hT (W := W) (vv := vv) (e := e) (bar := bar) hl (j := j) (be := be) (ah := ah) s6 y
    have hrg := mbs_rng last (TP T W vv e bar last n j be ah) hTP y
    have hTy := hTP y
    have eq : mbs last (TP T W vv e bar last n j be ah) (y + 1) = if 0 ≤ last - 7 + (y : Int) ∧ last - 7 + (y : Int) ≤ 60 then (if (mbs last (TP T W vv e bar last n j be ah) y).1 < 0 ∨ TP T W vv e bar last n j be ah y < (mbs last (TP T W vv e bar last n j be ah) y).2 then ((y : Int), TP T W vv e bar last n j be ah y) else mbs last (TP T W vv e bar last n j be ah) y) else mbs last (TP T W vv e bar last n j be ah) y := rfl
    have ih := fun σ1 => pM_bestAt_9 hT hs' hj hv σ0 ht P K hK d m (y + 1) σ1 (by omega) (by omega)
    rw [fM_bestAt_9]
    simp only [zwp_let]
    rw [if_neg (by omega), show zw (last + (y : Int) - 7) = last - 7 + (y : Int) by rw [zwj (by omega) (by omega)]; omega]
    have ez : zw ((y : Int) + 1) = ((y + 1 : Nat) : Int) := by rw [zwj (by omega) (by omega)]; omega
    by_cases c : 0 ≤ last - 7 + (y : Int) ∧ last - 7 + (y : Int) ≤ 60
    · rw [mIn_t c, if_pos (by decide), zwp_bi]
      rw [if_pos c] at eq
      refine zwp_mono (qM_costOf hs' hj hv.1.1 hv.1.2 (show y < 15 by omega) σ h2) (fun r σ1 ⟨g1, k1, e1⟩ => ?_)
      have hcb := cst_bd hT W vv e bar j (last - 7 + (be : Int)) (last - 7 + (ah : Int)) (last - 7 + (y : Int))
      have hz : zw r = r := by rw [e1]; exact zwj (by omega) (by omega)
      have fin : ∀ v, v = TP T W vv e bar last n j be ah y → zwp (fM_bestAt_81 (fun (x1 : Int) (x2 : Int) (x3 : Int) (x4 : Int) (x5 : Int) (x6 : Int) (x7 : Int) (x8 : Int) (x9 : Int) (x10 : Int) (x11 : Int) (σ : Zm) => fM_bestAt_9 m x1 x2 x3 x4 x5 x6 x7 x8 x9 x10 x11 σ K) K (x : Int) (vv : Int) (e : Int) (n : Int) (j : Int) last (be : Int) (ah : Int) (mbs last (TP T W vv e bar last n j be ah) y).1 (mbs last (TP T W vv e bar last n j be ah) y).2 (y : Int) v σ1) P := by
        intro v hv2
        have ih1 := ih σ1 (h1.tr g1) k1
        unfold fM_bestAt_81
        rw [ez, hv2]
        by_cases c1 : (mbs last (TP T W vv e bar last n j be ah) y).1 < 0
        · rw [if_pos c1]
          rw [eq, if_pos (Or.inl c1)] at ih1
          exact ih1
        · rw [if_neg c1]
          by_cases c2 : TP T W vv e bar last n j be ah y < (mbs last (TP T W vv e bar last n j be ah) y).2
          · rw [if_pos c2]
            rw [eq, if_pos (Or.inr c2)] at ih1
            exact ih1
          · rw [if_neg c2]
            rw [eq, if_neg (by omega)] at ih1
            exact ih1
      rw [hz, show zw ((j : Int) + 1) = ((j + 1 : Nat) : Int) by rw [zwj (by omega) (by omega)]; omega]
      by_cases c3 : n ≤ j + 1
      · rw [if_pos (by omega), zwp_let]
        refine fin _ ?_
        rw [e1, Int.add_zero, zwj (by omega) (by omega)]
        unfold TP
        rw [show n - j - 1 = 0 by omega]
        show _ = _ + 0
        omega
      · have hvl := VL_bd hT (W := W) (vv := vv) (e := e) (bar := bar) hl (n := n) (j := j + 1) (be := ah) (ah := y) s6
        have htv : tv last (j + 1) ah y := ⟨⟨hv.1.2, by omega⟩, hv.2.2.1, c, fun q => by omega, fun q => hv.2.2.2.1 (by omega)⟩
        have hrd : zrd σ1 290 (225 * (j + 1) + 15 * ah + y) = VL T W vv e bar last n (j + 1) ah y := by
          rw [(h1.tr g1).1.rd (by unfold oMg; omega)]
          exact ht y (by omega) htv
        have h14 := hv.1
        rw [if_neg (by omega)]
        unfold fM_cheap
        rw [show zw (225 * ((j + 1 : Nat) : Int) + 15 * (ah : Int) + (y : Int)) = ((225 * (j + 1) + 15 * ah + y : Nat) : Int) by rw [zwj (by omega) (by omega)]; omega, zckj (by omega) (by omega), zwp_bi, zwp_let, Int.toNat_natCast, hrd, zwp_some, zwp_let, zwj (a := VL T W vv e bar last n (j + 1) ah y) (by omega) (by omega), zwj (a := r + VL T W vv e bar last n (j + 1) ah y) (by omega) (by omega)]
        refine fin _ ?_
        rw [e1]
        unfold TP VL
        rw [show n - j - 1 = n - (j + 1) by omega]
    · rw [mIn_f c, if_neg (by decide), ez]
      rw [if_neg c] at eq
      have ih1 := ih σ h1 h2
      rw [eq] at ih1
      exact ih1
def oMb (q : Nat) : Prop := oMg q ∨ q = 290
theorem qM_bestAt {x : Nat} {T : List Cl} {bar : Int} {W : Nat → Ln} {vv e n : Nat} {last : Int} (hT : T.length ≤ 10) (hs : KS W vv e n last) {j be ah : Nat} (hj : j < n) (hv : tv last j be ah) (σ : Zm) (hk : KM x T bar W vv e σ) (ht : ∀ y, j + 1 < n → tv last (j + 1) ah y → zrd σ 290 (225 * (j + 1) + 15 * ah + y) = VL T W vv e bar last n (j + 1) ah y) : zwp (fM_bestAt σ (x : Int) (vv : Int) (e : Int) (n : Int) (j : Int) last (be : Int) (ah : Int)) (fun r σ' => zg oMb σ σ' ∧ KM x T bar W vv e σ' ∧ (∀ k, zrd σ' 290 k = if k = 225 * j + 15 * be + ah then VL T W vv e bar last n j be ah else zrd σ 290 k) ∧ r = klo last - (last - 7) + (bst (HF T W vv e bar last n j be ah) (kmn last)).2) := by
  have hs' := hs
  obtain ⟨s1, s2, s3, s4, s5, s6, s7, s8⟩ := hs
  have hl : 0 ≤ last ∧ last ≤ 60 := ⟨s7, s8⟩
  have h14 := hv.1
  have hvl := VL_bd hT (W := W) (vv := vv) (e := e) (bar := bar) hl (n := n) (j := j) (be := be) (ah := ah) s6
  unfold fM_bestAt
  refine pM_bestAt_9 hT hs' hj hv σ ht _ _ (fun σ1 g1 k1 => ?_) 15 5000 0 σ (by omega) (by omega) zg.rf hk
  rw [mbs_TP hT hl s6 hj, show zw (225 * (j : Int) + 15 * (be : Int) + (ah : Int)) = ((225 * j + 15 * be + ah : Nat) : Int) by rw [zwj (by omega) (by omega)]; omega, zckj (by omega) (by omega), Int.toNat_natCast]
  refine zwp_st (fun σ2 f2 v2 => ?_)
  rw [zwp_some]
  obtain ⟨⟨y1, y2, y3, y4, y5⟩, l, y6, y7⟩ := k1
  refine ⟨(g1.mono (fun q z => Or.inl z)).tr ⟨f2.mono (fun q z => Or.inr z), fun k _ => f2.rd (oO_ne (by omega)) k⟩, ⟨⟨y1, TRm_fo f2 (oO_ne (by omega)) y2, y3, by rw [f2.rd (oO_ne (by omega))]; exact y4, y5⟩, l, MV_fo y6 f2 (oO_ne (by omega)) (oO_ne (by omega)), y7⟩, fun k => ?_, rfl⟩
  rw [v2 k, zwj (a := VL T W vv e bar last n j be ah) (by omega) (by omega), g1.1.rd (by unfold oMg; omega)]

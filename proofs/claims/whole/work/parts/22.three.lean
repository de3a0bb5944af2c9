/-! MY OWN: the class's findThree -/
def f3 (i : Nat) : Nat := i / 44 * 225 + i / 11 % 4 * 25 + (i % 11 + 7)
theorem f3_lt {i : Nat} (h : i < 88) : f3 i < 900 := by unfold f3; omega
theorem qX_formOfThree (σ : Zm) (i : Nat) (h : i < 88) : fX_formOfThree σ (i : Int) = some ((f3 i : Int), σ) := by
  unfold fX_formOfThree f3
  dsimp only [zlet]
  rw [show Int.tmod (i : Int) 11 = ((i % 11 : Nat) : Int) from rfl, show Int.tdiv (i : Int) 11 = ((i / 11 : Nat) : Int) from rfl, show Int.tdiv (i : Int) 44 = ((i / 44 : Nat) : Int) from rfl]
  rw [zwj (a := ((i / 11 : Nat) : Int)) (by omega) (by omega), show Int.tmod ((i / 11 : Nat) : Int) 4 = ((i / 11 % 4 : Nat) : Int) from rfl, zwj (a := ((i / 11 % 4 : Nat) : Int)) (by omega) (by omega), zwj (a := ((i / 44 : Nat) : Int)) (by omega) (by omega), zwj (a := ((i % 11 : Nat) : Int) - 5) (by omega) (by omega)]
  refine congrArg some (Prod.ext ?_ rfl)
  show (((i / 44 : Nat) : Int) * 225 + ((i / 11 % 4 : Nat) : Int) * 25 + (((i % 11 : Nat) : Int) - 5) + 12) = ((i / 44 * 225 + i / 11 % 4 * 25 + (i % 11 + 7) : Nat) : Int)
  omega
def oF3 (q : Nat) : Prop := (157 ≤ q ∧ q ≤ 161) ∨ (165 ≤ q ∧ q ≤ 170) ∨ q = 175 ∨ q = 176
theorem pF_three_3 {R : Nat} {T : List Cl} {bar : Int} {one a b : Ln} {o p : Nat} (hR : ru R) (σ0 : Zm) (ho : sok o a σ0) (hp : sok p b σ0) (P : Int → Zm → Prop) (K : Nat → Nat → Nat → Zm → Zr) (hK : ∀ σ', zfo oF3 σ0 σ' → fok R T bar one σ' → (∀ j, j < 88 → zrd σ' 175 j = fpr T one a bar (f3 j) ∧ zrd σ' 176 j = fpr T one b bar (f3 j) - lq T (lfo one 12) bar 32 0) → zwp (K R o p σ') P) : ∀ (d m i : Nat) (σ : Zm), d < m → i + d = 88 → zfo oF3 σ0 σ → fok R T bar one σ → (∀ j, j < i → zrd σ 175 j = fpr T one a bar (f3 j) ∧ zrd σ 176 j = fpr T one b bar (f3 j) - lq T (lfo one 12) bar 32 0) → zwp (fF_findThree_3 m R o p (i : Int) σ K) P
  | 0, m + 1, i, σ, _, hi, hf, hk, hv => by
    rw [fF_findThree_3]
    simp only [zwp_let]
    rw [if_pos (by omega)]
    exact hK σ hf hk (fun j hj => hv j (by omega))
  | d + 1, m + 1, i, σ, hm, hi, hf, hk, hv => by
    have hTl := hk.1.2.2.1.2.1
    have hi3 := f3_lt (i := i) (by omega)
    have o1 := ho.2.1
    have p1 := hp.2.1
    have ba := fpr_bd hTl one a bar (f3 i)
    have bb := fpr_bd hTl one b bar (f3 i)
    have bl := lq_bd hTl (lfo one 12) bar 32 0
    rw [fF_findThree_3]
    simp only [zwp_let]
    rw [if_neg (by omega), zwp_bi, qX_formOfThree σ i (by omega), zwp_some, zwj (a := (f3 i : Int)) (by omega) (by omega), zwp_bi]
    refine zwp_mono (qF_priceOf σ hk hR (sok_fo ho hf (by unfold oF3; omega) (by unfold oF3; omega)) hi3 2147483647) (fun r σ1 ⟨g1, g2, g3, g4, _⟩ => ?_)
    have g1' : zfo oF3 σ σ1 := g1.mono (fun q h => by unfold oFp at h; unfold oF3; omega)
    rw [hk.2.2.1] at g3
    have er : r = fpr T one a bar (f3 i) := by unfold cut at g3; unfold fpr at ba ⊢; omega
    rw [g4, zckj (by omega) (by omega), zwp_let, zwp_bi, qX_formOfThree _ i (by omega), zwp_some, zwj (a := (f3 i : Int)) (by omega) (by omega), zwp_bi, Int.toNat_natCast]
    have h2 : zfo (oO 175) σ1 (zst σ1 175 i r) := zfo.rf.st1
    have h2' : zfo oF3 σ1 (zst σ1 175 i r) := h2.mono (fun q h => by unfold oO at h; unfold oF3; omega)
    have k2 : fok R T bar one (zst σ1 175 i r) := fok_fo g2 hR h2 (h2.rd (oO_ne (by omega)) _) (fun q h => by unfold oO at h; omega)
    refine zwp_mono (qF_priceOf _ k2 hR (sok_fo hp ((hf.tr g1').tr h2') (by unfold oF3; omega) (by unfold oF3; omega)) hi3 2147483647) (fun r2 σ2 ⟨u1, u2, u3, u4, _⟩ => ?_)
    have u1' : zfo oF3 (zst σ1 175 i r) σ2 := u1.mono (fun q h => by unfold oFp at h; unfold oF3; omega)
    rw [k2.2.2.1] at u3
    have er2 : r2 = fpr T one b bar (f3 i) := by unfold cut at u3; unfold fpr at bb ⊢; omega
    rw [u4, zwp_let, zckj (by omega) (by omega), zwp_let, u2.2.2.1, show zw ((i : Int) + 1) = ((i + 1 : Nat) : Int) from zwj (by omega) (by omega)]
    have h3 : zfo (oO 176) σ2 (zst σ2 176 i (r2 - lq T (lfo one 12) bar 32 0)) := zfo.rf.st1
    have h3' : zfo oF3 σ2 (zst σ2 176 i (r2 - lq T (lfo one 12) bar 32 0)) := h3.mono (fun q h => by unfold oO at h; unfold oF3; omega)
    refine pF_three_3 hR σ0 ho hp P K hK d m (i + 1) _ (by omega) (by omega) ((((hf.tr g1').tr h2').tr u1').tr h3') (fok_fo u2 hR h3 (h3.rd (oO_ne (by omega)) _) (fun q h => by unfold oO at h; omega)) (fun j hj => ?_)
    constructor
    · rw [h3.rd (oO_ne (by omega)), u1.rd (by unfold oFp; omega), zrd_st]
      by_cases c : j = i
      · rw [if_pos ⟨rfl, c⟩, g4, er, c]
      · rw [if_neg (fun q => c q.2), g1.rd (by unfold oFp; omega)]
        exact (hv j (by omega)).1
    · rw [zrd_st]
      by_cases c : j = i
      · rw [if_pos ⟨rfl, c⟩, er2, c]
        exact zwj (by omega) (by omega)
      · rw [if_neg (fun q => c q.2), u1.rd (by unfold oFp; omega), h2.rd (oO_ne (by omega)), g1.rd (by unfold oFp; omega)]
        exact (hv j (by omega)).2
def wth (T : List Cl) (one a b : Ln) (bar : Int) (i k : Nat) : Int := fpr T one a bar (f3 i) + (fpr T one b bar (f3 k) - lq T (lfo one 12) bar 32 0) + pq T (lfo a (f3 i)) (lfo b (f3 k)) bar 32 0
def b3k (W : Nat → Int) (x : Int) (s : Int × Int × Int) : Nat → Int × Int × Int
  | 0 => s
  | k + 1 => if W k < (b3k W x s k).1 then (W k, x, (f3 k : Int)) else b3k W x s k
def b3 (W : Nat → Nat → Int) (s : Int × Int × Int) : Nat → Int × Int × Int
  | 0 => s
  | i + 1 => b3k (W i) (f3 i : Int) (b3 W s i) 88
theorem b3k_bd {W : Nat → Int} {x : Int} {s : Int × Int × Int} (hW : ∀ k, 0 ≤ W k) (hs : 0 ≤ s.1 ∧ s.1 ≤ 2147483647) : ∀ k, 0 ≤ (b3k W x s k).1 ∧ (b3k W x s k).1 ≤ 2147483647
  | 0 => hs
  | k + 1 => by
    have := b3k_bd hW hs (x := x) k
    have := hW k
    unfold b3k
    split
    · simp only []; omega
    · omega
def th3 (T : List Cl) (bar : Int) (one a b : Ln) (s : Int × Int × Int) (σ : Zm) : Prop := (∀ j, j < 88 → zrd σ 175 j = fpr T one a bar (f3 j) ∧ zrd σ 176 j = fpr T one b bar (f3 j) - lq T (lfo one 12) bar 32 0) ∧ zrd σ 157 9 = s.1 ∧ zrd σ 157 10 = s.2.1 ∧ zrd σ 157 11 = s.2.2
theorem pF_three_93 {R : Nat} {T : List Cl} {bar : Int} {one a b : Ln} {o p : Nat} (hR : ru R) (σ0 : Zm) (hp : sok p b σ0) (ha : lss a) (i : Nat) (hi : i < 88) (s : Int × Int × Int) (hs : 0 ≤ s.1 ∧ s.1 ≤ 2147483647) (P : Int → Zm → Prop) (K : Nat → Nat → Nat → Int → Zm → Zr) (hK : ∀ σ', zfo oF3 σ0 σ' → fok R T bar one σ' → th3 T bar one a b (b3k (wth T one a b bar i) (f3 i) s 88) σ' → zwp (K R o p (i : Int) σ') P) : ∀ (d m k : Nat) (σ : Zm), d < m → k + d = 88 → zfo oF3 σ0 σ → fok R T bar one σ → ln 32 σ 165 = lfo a (f3 i) → th3 T bar one a b (b3k (wth T one a b bar i) (f3 i) s k) σ → zwp (fF_findThree_93 m R o p (i : Int) (k : Int) σ K) P
  | 0, m + 1, k, σ, _, hk, hf, hok, hl, hv => by
    rw [fF_findThree_93]
    simp only [zwp_let]
    rw [if_pos (by omega)]
    have : k = 88 := by omega
    subst this
    exact hK σ hf hok hv
  | d + 1, m + 1, k, σ, hm, hk, hf, hok, hl, hv => by
    have hTl := hok.1.2.2.1.2.1
    have hk3 := f3_lt (i := k) (by omega)
    have hi3 := f3_lt (i := i) (by omega)
    have p1 := hp.2.1
    have ba := fpr_bd hTl one a bar (f3 i)
    have bb := fpr_bd hTl one b bar (f3 k)
    have bl := lq_bd hTl (lfo one 12) bar 32 0
    have bl2 := lq_bd hTl (lfo b (f3 k)) bar 32 0
    have bp2 := pq_bd hTl (lfo one 12) (lfo b (f3 k)) bar 32 0
    have bq := pq_bd hTl (lfo a (f3 i)) (lfo b (f3 k)) bar 32 0
    have hb3 : fpr T one b bar (f3 k) - lq T (lfo one 12) bar 32 0 = lq T (lfo b (f3 k)) bar 32 0 + pq T (lfo one 12) (lfo b (f3 k)) bar 32 0 := by unfold fpr; omega
    have hWn : ∀ j, 0 ≤ wth T one a b bar i j := by
      intro j
      have h1 := fpr_bd hTl one a bar (f3 i)
      have h2 := lq_bd hTl (lfo b (f3 j)) bar 32 0
      have h3 := pq_bd hTl (lfo one 12) (lfo b (f3 j)) bar 32 0
      have h4 := pq_bd hTl (lfo a (f3 i)) (lfo b (f3 j)) bar 32 0
      unfold wth
      have h5 : fpr T one b bar (f3 j) - lq T (lfo one 12) bar 32 0 = lq T (lfo b (f3 j)) bar 32 0 + pq T (lfo one 12) (lfo b (f3 j)) bar 32 0 := by unfold fpr; omega
      omega
    have hsb := b3k_bd (x := (f3 i : Int)) hWn hs k
    have hW : wth T one a b bar i k = fpr T one a bar (f3 i) + (fpr T one b bar (f3 k) - lq T (lfo one 12) bar 32 0) + pq T (lfo a (f3 i)) (lfo b (f3 k)) bar 32 0 := rfl
    have hst : b3k (wth T one a b bar i) (f3 i) s (k + 1) = if wth T one a b bar i k < (b3k (wth T one a b bar i) (f3 i) s k).1 then (wth T one a b bar i k, (f3 i : Int), (f3 k : Int)) else b3k (wth T one a b bar i) (f3 i) s k := rfl
    obtain ⟨hv1, h9, h10, h11⟩ := hv
    rw [fF_findThree_93]
    simp only [zwp_let]
    rw [if_neg (by omega), zckj (by omega) (by omega), zwp_let, zckj (by omega) (by omega), zwp_let, zwp_let, zwp_let, Int.toNat_natCast, Int.toNat_natCast, (hv1 i hi).1, (hv1 k (by omega)).2, h9, zwj (a := fpr T one a bar (f3 i) + (fpr T one b bar (f3 k) - lq T (lfo one 12) bar 32 0)) (by omega) (by omega), show zw ((k : Int) + 1) = ((k + 1 : Nat) : Int) from zwj (by omega) (by omega)]
    by_cases c : fpr T one a bar (f3 i) + (fpr T one b bar (f3 k) - lq T (lfo one 12) bar 32 0) < (b3k (wth T one a b bar i) (f3 i) s k).1
    · rw [if_pos c, zwp_bi, qX_formOfThree σ k (by omega), zwp_some, zwj (a := (f3 k : Int)) (by omega) (by omega), zwp_bv]
      have hp' : sok p b σ := sok_fo hp hf (by unfold oF3; omega) (by unfold oF3; omega)
      obtain ⟨d1, d2⟩ := sok_oD (p := 168) hp' (Or.inr (Or.inr rfl))
      refine zwp_mono (qL_takeForm zli_168 hp'.1 d1 d2 σ (by rw [hp'.2.2.1]; exact hp'.2.2.2.sm) (f3 k) hk3) (fun r σ1 ⟨f1, l1⟩ => ?_)
      rw [hp'.2.2.1] at l1
      have f1' : zfo oF3 σ σ1 := f1.mono (fun q h => by unfold oD at h; unfold oF3; omega)
      have ok1 : fok R T bar one σ1 := fok_fo hok hR f1 (f1.rd (by unfold oD; omega) _) (fun q h => by unfold oD at h; omega)
      simp only [zwp_let]
      generalize hap : fpr T one a bar (f3 i) + (fpr T one b bar (f3 k) - lq T (lfo one 12) bar 32 0) = ap at *
      have f2 : zfo (oO 158) σ1 (zst σ1 158 6 ap) := zfo.rf.st1
      have f2' : zfo oF3 σ1 (zst σ1 158 6 ap) := f2.mono (fun q h => by unfold oO at h; unfold oF3; omega)
      rw [f2.rd (o := 157) (oO_ne (by omega)), f1.rd (o := 157) (by unfold oD; omega), h9, zwj (a := (b3k (wth T one a b bar i) (f3 i) s k).1 - 1) (by omega) (by omega), zwp_bv]
      obtain ⟨⟨q1, q2, q3, q4, q5, q6, q7⟩, -, -, -⟩ := ok1
      have hj : jok 158 R T bar (zst σ1 158 6 ap) := ⟨q1, q2, TRc_fo f2 (by intro j hj; have := hR.1; exact oO_ne (by omega)) q3, q4, by rw [zrd_st, if_neg (by omega)]; exact q5, q6, q7⟩
      have l165 : ln 32 (zst σ1 158 6 ap) 165 = lfo a (f3 i) := by rw [ln_fo f2 (oO_ne (by omega)) (oO_ne (by omega)), ln_fo f1 (by unfold oD; omega) (by unfold oD; omega), hl]
      have l168 : ln 32 (zst σ1 158 6 ap) 168 = lfo b (f3 k) := by rw [ln_fo f2 (oO_ne (by omega)) (oO_ne (by omega)), l1]
      have e6 : zrd (zst σ1 158 6 ap) 158 6 = ap := by rw [zrd_st_eq]; exact zwj (by omega) (by omega)
      refine zwp_mono (qJ_askPairs hj ⟨zli_165, by unfold oJ; omega, by unfold oJ; omega, l165, lfo_sm ha _⟩ ⟨zli_168, by unfold oJ; omega, by unfold oJ; omega, l168, lfo_sm hp.2.2.2 _⟩ _ (by rw [e6]; omega)) (fun r σ2 ⟨g1, g2⟩ => ?_)
      rw [e6] at g2
      have g1' : zfo oF3 (zst σ1 158 6 ap) σ2 := g1.1.mono (fun q h => by unfold oJ at h; unfold oF3; omega)
      have e157 : ∀ j, zrd σ2 157 j = zrd σ 157 j := fun j => by rw [g1.1.rd (by unfold oJ; omega), f2.rd (oO_ne (by omega)), f1.rd (by unfold oD; omega)]
      have e175 : ∀ j, zrd σ2 175 j = zrd σ 175 j := fun j => by rw [g1.1.rd (by unfold oJ; omega), f2.rd (oO_ne (by omega)), f1.rd (by unfold oD; omega)]
      have e176 : ∀ j, zrd σ2 176 j = zrd σ 176 j := fun j => by rw [g1.1.rd (by unfold oJ; omega), f2.rd (oO_ne (by omega)), f1.rd (by unfold oD; omega)]
      have fa : zfo oF3 σ0 σ2 := (((hf.tr f1').tr f2').tr g1')
      have ok2 : fok R T bar one σ2 := by
        refine ⟨jok_f hj g1, ?_, by rw [e157]; exact hok.2.2.1, hok.2.2.2⟩
        obtain ⟨l1, l2, l3, l4, l5⟩ := hok.2.1
        refine ⟨l1, l2, l3, ?_, l5⟩
        rw [ln_fo g1.1 (by unfold oJ; omega) (by unfold oJ; omega), ln_fo f2 (oO_ne (by omega)) (oO_ne (by omega)), ln_fo f1 (by unfold oD; omega) (by unfold oD; omega), l4]
      have l165' : ln 32 σ2 165 = lfo a (f3 i) := by rw [ln_fo g1.1 (by unfold oJ; omega) (by unfold oJ; omega), l165]
      simp only [zwp_let]
      rw [e157, h9]
      by_cases c2 : (b3k (wth T one a b bar i) (f3 i) s k).1 ≤ zrd σ2 158 6
      · rw [if_pos c2]
        have c3 : ¬ wth T one a b bar i k < (b3k (wth T one a b bar i) (f3 i) s k).1 := by unfold cut at g2; omega
        rw [if_neg c3] at hst
        refine pF_three_93 hR σ0 hp ha i hi s hs P K hK d m (k + 1) σ2 (by omega) (by omega) fa ok2 l165' ⟨fun j hj => ?_, ?_, ?_, ?_⟩
        · rw [e175, e176]; exact hv1 j hj
        · rw [hst, e157, h9]
        · rw [hst, e157, h10]
        · rw [hst, e157, h11]
      · rw [if_neg c2]
        have c3 : wth T one a b bar i k < (b3k (wth T one a b bar i) (f3 i) s k).1 ∧ zrd σ2 158 6 = wth T one a b bar i k := by unfold cut at g2; omega
        rw [if_pos c3.1] at hst
        have hWb := hWn k
        simp only [zwp_let]
        rw [zwp_bi, qX_formOfThree _ i (by omega), zwp_some, zwp_let, zwp_bi, qX_formOfThree _ k (by omega), zwp_some, zwp_let, zwj (a := (f3 i : Int)) (by omega) (by omega), zwj (a := (f3 k : Int)) (by omega) (by omega)]
        have f5 : zfo (oO 157) σ2 (zst (zst (zst σ2 157 9 (zrd σ2 158 6)) 157 10 (f3 i : Int)) 157 11 (f3 k : Int)) := zfo.rf.st1.st1.st1
        refine pF_three_93 hR σ0 hp ha i hi s hs P K hK d m (k + 1) _ (by omega) (by omega) (fa.tr (f5.mono (fun q h => by unfold oO at h; unfold oF3; omega))) (fok_fo ok2 hR f5 (by simp (disch := omega) only [zrd_st, ifn]) (fun q h => Or.inl h)) (by rw [ln_fo f5 (oO_ne (by omega)) (oO_ne (by omega)), l165']) ⟨fun j hj => ?_, ?_, ?_, ?_⟩
        · rw [f5.rd (oO_ne (by omega)), f5.rd (oO_ne (by omega)), e175, e176]; exact hv1 j hj
        · rw [hst]
          simp (disch := omega) only [zrd_st, ifn]
          simp only [and_self, if_true, reduceIte]
          rw [zw_rd, c3.2]
        · rw [hst]
          simp (disch := omega) only [zrd_st, ifn]
          simp only [and_self, if_true, reduceIte]
          exact zwj (by omega) (by omega)
        · rw [hst]
          simp only [zrd_st, and_self, if_true, reduceIte]
          exact zwj (by omega) (by omega)
    · rw [if_neg c]
      have c3 : ¬ wth T one a b bar i k < (b3k (wth T one a b bar i) (f3 i) s k).1 := by omega
      rw [if_neg c3] at hst
      exact pF_three_93 hR σ0 hp ha i hi s hs P K hK d m (k + 1) σ (by omega) (by omega) hf hok hl ⟨hv1, by rw [hst]; exact h9, by rw [hst]; exact h10, by rw [hst]; exact h11⟩
theorem wth_bd {T : List Cl} (hTl : T.length ≤ 10) (one a b : Ln) (bar : Int) (i j : Nat) : 0 ≤ wth T one a b bar i j ∧ wth T one a b bar i j ≤ 30000000 := by
  have h1 := fpr_bd hTl one a bar (f3 i)
  have h2 := lq_bd hTl (lfo b (f3 j)) bar 32 0
  have h3 := pq_bd hTl (lfo one 12) (lfo b (f3 j)) bar 32 0
  have h4 := pq_bd hTl (lfo a (f3 i)) (lfo b (f3 j)) bar 32 0
  unfold wth
  have h5 : fpr T one b bar (f3 j) - lq T (lfo one 12) bar 32 0 = lq T (lfo b (f3 j)) bar 32 0 + pq T (lfo one 12) (lfo b (f3 j)) bar 32 0 := by unfold fpr; omega
  omega
theorem b3_bd {W : Nat → Nat → Int} {s : Int × Int × Int} (hW : ∀ i k, 0 ≤ W i k) (hs : 0 ≤ s.1 ∧ s.1 ≤ 2147483647) : ∀ i, 0 ≤ (b3 W s i).1 ∧ (b3 W s i).1 ≤ 2147483647
  | 0 => hs
  | i + 1 => b3k_bd (hW i) (b3_bd hW hs i) 88
theorem pF_three_70 {R : Nat} {T : List Cl} {bar : Int} {one a b : Ln} {o p : Nat} (hR : ru R) (σ0 : Zm) (ho : sok o a σ0) (hp : sok p b σ0) (s : Int × Int × Int) (hs : 0 ≤ s.1 ∧ s.1 ≤ 2147483647) : ∀ (d m i : Nat) (σ : Zm), d < m → i + d = 88 → zfo oF3 σ0 σ → fok R T bar one σ → th3 T bar one a b (b3 (wth T one a b bar) s i) σ → zwp (fF_findThree_70 m R o p (i : Int) σ) (fun _ σ' => zfo oF3 σ0 σ' ∧ fok R T bar one σ' ∧ th3 T bar one a b (b3 (wth T one a b bar) s 88) σ')
  | 0, m + 1, i, σ, _, hi, hf, hok, hv => by
    rw [fF_findThree_70]
    simp only [zwp_let]
    rw [if_pos (by omega), zwp_some]
    have : i = 88 := by omega
    subst this
    exact ⟨hf, hok, hv⟩
  | d + 1, m + 1, i, σ, hm, hi, hf, hok, hv => by
    have hTl := hok.1.2.2.1.2.1
    have hi3 := f3_lt (i := i) (by omega)
    have o1 := ho.2.1
    rw [fF_findThree_70]
    simp only [zwp_let]
    rw [if_neg (by omega), zwp_bi, qX_formOfThree σ i (by omega), zwp_some, zwj (a := (f3 i : Int)) (by omega) (by omega), zwp_bv]
    have ho' : sok o a σ := sok_fo ho hf (by unfold oF3; omega) (by unfold oF3; omega)
    obtain ⟨d1, d2⟩ := sok_oD (p := 165) ho' (Or.inr (Or.inl rfl))
    refine zwp_mono (qL_takeForm zli_165 ho'.1 d1 d2 σ (by rw [ho'.2.2.1]; exact ho'.2.2.2.sm) (f3 i) hi3) (fun r σ1 ⟨f1, l1⟩ => ?_)
    rw [ho'.2.2.1] at l1
    have f1' : zfo oF3 σ σ1 := f1.mono (fun q h => by unfold oD at h; unfold oF3; omega)
    have ok1 : fok R T bar one σ1 := fok_fo hok hR f1 (f1.rd (by unfold oD; omega) _) (fun q h => by unfold oD at h; omega)
    have hv' : th3 T bar one a b (b3 (wth T one a b bar) s i) σ1 := by
      obtain ⟨h1, h2, h3, h4⟩ := hv
      refine ⟨fun j hj => ?_, by rw [f1.rd (by unfold oD; omega)]; exact h2, by rw [f1.rd (by unfold oD; omega)]; exact h3, by rw [f1.rd (by unfold oD; omega)]; exact h4⟩
      rw [f1.rd (by unfold oD; omega), f1.rd (by unfold oD; omega)]
      exact h1 j hj
    refine pF_three_93 hR σ0 hp ho.2.2.2 i (by omega) (b3 (wth T one a b bar) s i) (b3_bd (fun i k => (wth_bd hTl one a b bar i k).1) hs i) _ _ (fun σ2 k1 k2 k3 => ?_) 88 5000 0 σ1 (by omega) (by omega) (hf.tr f1') ok1 l1 hv'
    rw [show zw ((i : Int) + 1) = ((i + 1 : Nat) : Int) from zwj (by omega) (by omega)]
    exact pF_three_70 hR σ0 ho hp s hs d m (i + 1) σ2 (by omega) (by omega) k1 k2 k3
theorem qF_findThree {R : Nat} {T : List Cl} {bar : Int} {one a b : Ln} {o p : Nat} (hR : ru R) (σ : Zm) (ho : sok o a σ) (hp : sok p b σ) (hk : fok R T bar one σ) : zwp (fF_findThree σ R o p) (fun _ σ' => zfo oF3 σ σ' ∧ ∃ x y, th3 T bar one a b (b3 (wth T one a b bar) (2147483647, x, y) 88) σ') := by
  unfold fF_findThree
  refine pF_three_3 hR σ ho hp _ _ (fun σ1 f1 k1 v1 => ?_) 88 5000 0 σ (by omega) (by omega) zfo.rf hk (fun j hj => by omega)
  simp only [zwp_let]
  have f2 : zfo (oO 157) σ1 (zst σ1 157 9 2147483647) := zfo.rf.st1
  refine zwp_mono (pF_three_70 (a := a) (b := b) hR σ ho hp (2147483647, zrd σ1 157 10, zrd σ1 157 11) (by simp) 88 5000 0 _ (by omega) (by omega) (f1.tr (f2.mono (fun q h => by unfold oO at h; unfold oF3; omega))) (fok_fo k1 hR f2 (by simp (disch := omega) only [zrd_st, ifn]) (fun q h => Or.inl h)) ⟨fun j hj => ?_, ?_, ?_, ?_⟩) (fun r σ' ⟨g1, g2, g3⟩ => ⟨g1, _, _, g3⟩)
  · rw [f2.rd (oO_ne (by omega)), f2.rd (oO_ne (by omega))]; exact v1 j hj
  · rw [zrd_st_eq]; show zw 2147483647 = 2147483647; decide
  · rw [zrd_st, if_neg (by omega)]; rfl
  · rw [zrd_st, if_neg (by omega)]; rfl

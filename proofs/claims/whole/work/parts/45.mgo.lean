/-! MY OWN: the reference goes through all forms -/
def updl (A : Nat → Ln) (v : Nat) (a : Ln) : Nat → Ln := fun i => if i = v then a else A i
def lff (a : Ln) (h : Int) (d : Nat) (tr : Int) (m : Nat) : Ln := if m = 1 then lfm1 a d (30 + h) (tg tr) 12 else lfm2 a d (30 + h) (tg tr) 12
/-- a line that a row can hold -/
def lnok (a : Ln) : Prop := ∀ t, (a t = (0, 0) ∨ (((a t).1 = 1 ∨ (a t).1 = 2) ∧ (a t).2 ≠ -1000)) ∧ (32 ≤ t → a t = (0, 0))
theorem row_ms {v : Nat} {a : Ln} {σ : Zm} (h : row v a σ) (ha : lnok a) : ms σ v = a ∧ ∀ t, t < 32 → (zrd σ 283 (32 * v + t) = 0 ∨ zrd σ 283 (32 * v + t) = 1) ∧ (zrd σ 282 (32 * v + t) = -1000 → zrd σ 283 (32 * v + t) = 0) := by
  constructor
  · funext t
    unfold ms
    obtain ⟨k1, k2⟩ := ha t
    by_cases c : t < 32
    · obtain ⟨h1, h2⟩ := h t c
      rw [h1, h2]
      generalize a t = w at *
      unfold shv bgv
      rcases k1 with e | ⟨e, er⟩
      · rw [e, if_neg (fun z => z.2 rfl)]
      · rw [if_pos ⟨c, by rw [if_neg (by omega)]; exact er⟩, if_neg (show ¬ w.1 = 0 by omega)]
        refine Prod.ext ?_ rfl
        show (if (if w.1 = 1 then (1 : Int) else 0) ≠ 0 then (1 : Int) else 2) = w.1
        rcases e with e | e
        · rw [e]; rfl
        · rw [e]; rfl
    · rw [if_neg (fun z => c z.1), k2 (by omega)]
  · intro t ht
    obtain ⟨h1, h2⟩ := h t ht
    obtain ⟨k1, k2⟩ := ha t
    rw [h1, h2]
    generalize a t = w at *
    unfold shv bgv
    constructor
    · split
      · exact Or.inr rfl
      · exact Or.inl rfl
    · intro q
      rcases k1 with e | ⟨e, er⟩
      · rw [e]; decide
      · rw [if_neg (by omega)] at q; exact absurd q er
theorem MV_row {A : Nat → Ln} {v : Nat} (hv : v < 4) {a : Ln} {σ σ' : Zm} (h : MV A σ) (hr : row v a σ') (ho : oth v σ σ') (ha : lnok a) : MV (updl A v a) σ' := by
  obtain ⟨r1, r2⟩ := row_ms hr ha
  refine ⟨fun j hj => ?_, fun i hi => ?_⟩
  · by_cases c : 32 * v ≤ j ∧ j < 32 * v + 32
    · have := r2 (j - 32 * v) (by omega)
      rw [show 32 * v + (j - 32 * v) = j by omega] at this
      exact this
    · obtain ⟨e1, e2⟩ := ho j (by omega)
      rw [e1, e2]
      exact h.1 j hj
  · unfold updl
    by_cases c : i = v
    · rw [if_pos c, c, r1]
    · rw [if_neg c, ← h.2 i hi]
      funext t
      unfold ms
      by_cases c2 : t < 32
      · obtain ⟨e1, e2⟩ := ho (32 * i + t) (by omega)
        rw [e1, e2]
      · rw [if_neg (fun z => c2 z.1), if_neg (fun z => c2 z.1)]
theorem lff_ok {a : Ln} (ha : lss a) (hk : ∀ t, (a t).1 = 0 ∨ (a t).1 = 1 ∨ (a t).1 = 2) {h : Int} (hh : -12 ≤ h ∧ h ≤ 12) {d : Nat} (hd : d ≤ 8) (tr : Int) (m : Nat) : lnok (lff a h d tr m) := by
  have ht : tg tr = 1 ∨ tg tr = -1 := by unfold tg; split; exact Or.inl rfl; exact Or.inr rfl
  intro t
  unfold lff
  split
  · unfold lfm1
    have h1 := ha ((t - d) / 1)
    have h2 := hk ((t - d) / 1)
    by_cases c : d ≤ t ∧ t < d + 1 * 12 ∧ (a ((t - d) / 1)).1 ≠ 0
    · rw [if_pos c]
      refine ⟨Or.inr ⟨?_, ?_⟩, fun q => by omega⟩
      · show (if (t - d) % 1 = 0 then (a ((t - d) / 1)).1 else 2) = 1 ∨ (if (t - d) % 1 = 0 then (a ((t - d) / 1)).1 else 2) = 2
        split <;> omega
      · show 30 + h + tg tr * (a ((t - d) / 1)).2 ≠ -1000
        rcases ht with q | q <;> rw [q] <;> omega
    · rw [if_neg c]
      exact ⟨Or.inl rfl, fun _ => rfl⟩
  · unfold lfm2
    have h1 := ha ((t - d) / 2)
    have h2 := hk ((t - d) / 2)
    by_cases c : d ≤ t ∧ t < d + 2 * 12 ∧ (a ((t - d) / 2)).1 ≠ 0
    · rw [if_pos c]
      refine ⟨Or.inr ⟨?_, ?_⟩, fun q => by omega⟩
      · show (if (t - d) % 2 = 0 then (a ((t - d) / 2)).1 else 2) = 1 ∨ (if (t - d) % 2 = 0 then (a ((t - d) / 2)).1 else 2) = 2
        split <;> omega
      · show 30 + h + tg tr * (a ((t - d) / 2)).2 ≠ -1000
        rcases ht with q | q <;> rw [q] <;> omega
    · rw [if_neg c]
      exact ⟨Or.inl rfl, fun _ => rfl⟩
theorem qM_layForm {A : Nat → Ln} {a : Ln} (ha : lss a) (hk : ∀ t, (a t).1 = 0 ∨ (a t).1 = 1 ∨ (a t).1 = 2) (v : Nat) (hv : v < 4) (h : Int) (hh : -12 ≤ h ∧ h ≤ 12) (d : Nat) (hd : d ≤ 8) (tr : Int) (m : Nat) (hm : m = 1 ∨ m = 2) (σ : Zm) (hA : MV A σ) (hD : MD a σ) : zwp (fM_layForm σ (v : Int) h (d : Int) tr (m : Int)) (fun _ σ' => zfo oSh σ σ' ∧ MV (updl A v (lff a h d tr m)) σ') := by
  unfold fM_layForm
  refine pM_layForm_3 v hv σ _ _ _ _ _ _ (fun σ1 f1 o1 r1 => ?_) 32 5000 0 σ (by omega) (by omega) zfo.rf oth.rf (fun y hy => by omega)
  have hD1 : MD a σ1 := fun b hb => by rw [f1.rd (by unfold oSh; omega)]; exact hD b hb
  have hok := lff_ok ha hk hh hd tr m
  rcases hm with rfl | rfl
  · have e0 : (fun _ => (0, 0)) = lfm1 a d (30 + h) (tg tr) 0 := by
      funext t
      unfold lfm1
      rw [if_neg (by omega)]
    rw [e0] at r1
    refine zwp_mono (pM_layForm_47_1 ha hk v hv h hh d hd tr σ1 hD1 12 5000 0 σ1 (by omega) (by omega) zfo.rf oth.rf r1) (fun r σ2 ⟨f2, o2, r2⟩ => ⟨f1.tr f2, MV_row hv hA ?_ (o1.tr o2) hok⟩)
    unfold lff
    rw [if_pos rfl]
    exact r2
  · have e0 : (fun _ => (0, 0)) = lfm2 a d (30 + h) (tg tr) 0 := by
      funext t
      unfold lfm2
      rw [if_neg (by omega)]
    rw [e0] at r1
    refine zwp_mono (pM_layForm_47_2 ha hk v hv h hh d hd tr σ1 hD1 12 5000 0 σ1 (by omega) (by omega) zfo.rf oth.rf r1) (fun r σ2 ⟨f2, o2, r2⟩ => ⟨f1.tr f2, MV_row hv hA ?_ (o1.tr o2) hok⟩)
    unfold lff
    rw [if_neg (by decide)]
    exact r2
def zln : Ln := fun _ => (0, 0)
theorem pM_clearSheet_2 (σ0 : Zm) : ∀ (d m j : Nat) (σ : Zm), d < m → j + d = 128 → zfo oSh σ0 σ → (∀ k, k < j → zrd σ 282 k = -1000 ∧ zrd σ 283 k = 0) → zwp (fM_clearSheet_2 m (j : Int) σ) (fun _ σ' => zfo oSh σ0 σ' ∧ ∀ k, k < 128 → zrd σ' 282 k = -1000 ∧ zrd σ' 283 k = 0)
  | 0, m + 1, j, σ, _, hj, hf, hr => by
    rw [fM_clearSheet_2]
    simp only [zwp_let]
    rw [if_pos (by omega), zwp_some]
    exact ⟨hf, fun k hk => hr k (by omega)⟩
  | d + 1, m + 1, j, σ, hm', hj, hf, hr => by
    rw [fM_clearSheet_2]
    simp only [zwp_let]
    rw [if_neg (by omega), zckj (by omega) (by omega), Int.toNat_natCast, show zw ((j : Int) + 1) = ((j + 1 : Nat) : Int) from zwj (by omega) (by omega)]
    refine zwp_st (fun σ1 f1 v1 => ?_)
    rw [zckj (by omega) (by omega)]
    refine zwp_st (fun σ2 f2 v2 => ?_)
    refine pM_clearSheet_2 σ0 d m (j + 1) σ2 (by omega) (by omega) (hf.tr ((f1.mono (fun q z => Or.inl z)).tr (f2.mono (fun q z => Or.inr z)))) (fun k hk => ?_)
    rw [f2.rd (oO_ne (by omega)), v1, v2, f1.rd (oO_ne (by omega))]
    by_cases c : k = j
    · rw [c, if_pos rfl, if_pos rfl]
      exact ⟨by decide, by decide⟩
    · rw [if_neg c, if_neg c]
      exact hr k (by omega)
theorem qM_clearSheet (σ : Zm) : zwp (fM_clearSheet σ) (fun _ σ' => zfo oSh σ σ' ∧ MV (fun _ => zln) σ') := by
  unfold fM_clearSheet
  refine zwp_mono (pM_clearSheet_2 σ 128 5000 0 σ (by omega) (by omega) zfo.rf (fun k hk => by omega)) (fun r σ' ⟨f, h⟩ => ⟨f, fun j hj => ?_, fun v hv => ?_⟩)
  · obtain ⟨h1, h2⟩ := h j hj
    exact ⟨Or.inl h2, fun _ => h2⟩
  · funext t
    unfold ms
    by_cases c : t < 32
    · rw [(h (32 * v + t) (by omega)).1, if_neg (fun z => z.2 rfl)]
      rfl
    · rw [if_neg (fun z => c z.1)]
      rfl
/-- sums of a piece's breaks -/
theorem lsum_abk (T : List Cl) (A : Nat → Ln) (bar : Int) : ∀ (d t : Nat), lsum (abk T A bar d t) = pq T (A 0) (A 1) bar d t + pq T (A 0) (A 2) bar d t + pq T (A 0) (A 3) bar d t + pq T (A 1) (A 2) bar d t + pq T (A 1) (A 3) bar d t + pq T (A 2) (A 3) bar d t + lq T (A 0) bar d t + lq T (A 1) bar d t + lq T (A 2) bar d t + lq T (A 3) bar d t
  | 0, t => by simp [abk, lsum, pq, lq]
  | d + 1, t => by
    unfold abk
    rw [lsum_ap, lsum_abk T A bar d (t + 1)]
    unfold tbk
    simp only [lsum_ap, lsum_tag, pq, lq]
    omega
theorem lq_zl {T : List Cl} {bar : Int} (d t : Nat) : lq T zln bar d t = 0 := lq_z d t (fun _ _ _ => rfl)
theorem pq_zl {T : List Cl} {bar : Int} (a : Ln) (d t : Nat) : pq T a zln bar d t = 0 := pq_z d t (fun _ _ _ => Or.inr rfl)
theorem pq_zl2 {T : List Cl} {bar : Int} (a : Ln) (d t : Nat) : pq T zln a bar d t = 0 := pq_z d t (fun _ _ _ => Or.inl rfl)
theorem lsum_two {T : List Cl} {A : Nat → Ln} {bar : Int} (h2 : A 2 = zln) (h3 : A 3 = zln) : lsum (abk T A bar 32 0) = lq T (A 0) bar 32 0 + lq T (A 1) bar 32 0 + pq T (A 0) (A 1) bar 32 0 := by
  rw [lsum_abk, h2, h3]
  simp only [lq_zl, pq_zl]
  omega
theorem lsum_three {T : List Cl} {A : Nat → Ln} {bar : Int} (h3 : A 3 = zln) : lsum (abk T A bar 32 0) = lq T (A 0) bar 32 0 + lq T (A 1) bar 32 0 + pq T (A 0) (A 1) bar 32 0 + (lq T (A 2) bar 32 0 + pq T (A 0) (A 2) bar 32 0) + pq T (A 1) (A 2) bar 32 0 := by
  rw [lsum_abk, h3]
  simp only [lq_zl, pq_zl]
  omega
theorem lff_lfo {a : Ln} {f : Nat} (hf : f < 900) (tr : Int) (htr : (tr = 0 ↔ ¬ f / 225 % 2 = 1)) : lff a (((f % 25 : Nat) : Int) - 12) (f / 25 % 9) tr (f / 450 + 1) = lfo a f := by
  have e1 : (30 + (((f % 25 : Nat) : Int) - 12)) = 18 + ((f % 25 : Nat) : Int) := by omega
  have e2 : tg tr = if f / 225 % 2 = 1 then -1 else 1 := by
    unfold tg
    by_cases c : f / 225 % 2 = 1
    · rw [if_pos c, if_neg (fun q => (htr.mp q) c)]
    · rw [if_neg c, if_pos (htr.mpr c)]
  unfold lff lfo
  rw [e1, e2]
  exact ite_cg (by omega)
def fcode (f : Nat) : Int := ((10000 * (f / 450) + 5000 * (f / 225 % 2) + 100 * (f / 25 % 9) + f % 25 : Nat) : Int)
/-- the fits by a limit: how many, the i-th -/
def fitf (P : Nat → Int) (limit i : Int) : Nat → Int × Int
  | 0 => (0, -1)
  | n + 1 => if P n ≤ limit then ((fitf P limit i n).1 + 1, if (fitf P limit i n).1 = i then fcode n else (fitf P limit i n).2) else fitf P limit i n
def lstf (P : Nat → Int) : Nat → Int × Int
  | 0 => (-1, -1)
  | n + 1 => if (lstf P n).1 < 0 ∨ P n < (lstf P n).1 then (P n, fcode n) else lstf P n
theorem fitf_bd (P : Nat → Int) (limit i : Int) : ∀ n : Nat, 0 ≤ (fitf P limit i n).1 ∧ (fitf P limit i n).1 ≤ n
  | 0 => by simp [fitf]
  | n + 1 => by
    have := fitf_bd P limit i n
    unfold fitf
    split
    · simp only []; omega
    · omega
theorem fcode_bd (f : Nat) (hf : f < 900) : 0 ≤ fcode f ∧ fcode f ≤ 30000 := by unfold fcode; omega
theorem fitf_c (P : Nat → Int) (limit i : Int) : ∀ n : Nat, n ≤ 900 → -1 ≤ (fitf P limit i n).2 ∧ (fitf P limit i n).2 ≤ 30000
  | 0, _ => by simp [fitf]
  | n + 1, h => by
    have := fitf_c P limit i n (by omega)
    have := fcode_bd n (by omega)
    unfold fitf
    split
    · simp only []
      split <;> omega
    · omega
theorem lstf_bd (P : Nat → Int) (hP : ∀ k, 0 ≤ P k ∧ P k ≤ 2000000000) : ∀ n : Nat, n ≤ 900 → -1 ≤ (lstf P n).1 ∧ (lstf P n).1 ≤ 2000000000 ∧ -1 ≤ (lstf P n).2 ∧ (lstf P n).2 ≤ 30000
  | 0, _ => by simp [lstf]
  | n + 1, h => by
    have := lstf_bd P hP n (by omega)
    have := fcode_bd n (by omega)
    have := hP n
    unfold lstf
    split
    · simp only []; omega
    · omega
theorem qM_formCode (σ : Zm) (f : Nat) (hf : f < 900) (tr : Int) (htr : (tr = 0 ↔ ¬ f / 225 % 2 = 1)) : fM_formCode σ (((f % 25 : Nat) : Int) - 12) ((f / 25 % 9 : Nat) : Int) tr ((f / 450 + 1 : Nat) : Int) = some (fcode f, σ) := by
  unfold fM_formCode fcode
  by_cases c : tr = 0
  · have := htr.mp c
    rw [if_pos c]
    refine congrArg some (Prod.ext ?_ rfl)
    show (_ : Int) = _
    omega
  · have : f / 225 % 2 = 1 := by
      by_cases q : f / 225 % 2 = 1
      · exact q
      · exact absurd (htr.mpr q) c
    rw [if_neg c]
    refine congrArg some (Prod.ext ?_ rfl)
    show (_ : Int) = _
    omega
/-- the reference's surroundings for fits: subject one is laid, a is made -/
def gok (x : Nat) (T : List Cl) (bar : Int) (one a : Ln) (σ : Zm) : Prop := x < 6 ∧ TRm σ x T ∧ WF T ∧ zrd σ 274 0 = bar ∧ (1 ≤ bar ∧ bar ≤ 12) ∧ MD a σ ∧ ∃ b : Ln, MV (updl (updl (fun _ => zln) 0 (lfo one 12)) 1 b) σ
def oMg (q : Nat) : Prop := q = 273 ∨ q = 279 ∨ q = 280 ∨ q = 281 ∨ q = 282 ∨ q = 283 ∨ q = 284
theorem updl2 {A : Nat → Ln} {v : Nat} {a b : Ln} : updl (updl A v a) v b = updl A v b := by
  funext i
  unfold updl
  by_cases c : i = v
  · rw [if_pos c, if_pos c]
  · rw [if_neg c, if_neg c, if_neg c]
def LSb (a : Ln) : Prop := lss a ∧ ∀ t, (a t).1 = 0 ∨ (a t).1 = 1 ∨ (a t).1 = 2
theorem zln_sm : lsm zln := fun _ => ⟨show (-1000 : Int) ≤ 0 by decide, show (0 : Int) ≤ 1000 by decide⟩
theorem pM_goThrough_23 {x : Nat} {T : List Cl} {bar : Int} {one a : Ln} (h1 : LSb one) (ha : LSb a) (limit i : Int) (hi : zw i = i) (σ0 : Zm) : ∀ (d m f : Nat) (σ : Zm), d < m → f + d = 900 → zfo oMg σ0 σ → gok x T bar one a σ → zrd σ 273 31 = (fitf (fpr T one a bar) limit i f).1 → zrd σ 273 32 = (fitf (fpr T one a bar) limit i f).2 → zrd σ 273 33 = (lstf (fpr T one a bar) f).1 → zrd σ 273 34 = (lstf (fpr T one a bar) f).2 → (∀ k, k < 26 → zrd σ 273 k = zrd σ0 273 k) → zwp (fM_goThrough_23 m (x : Int) limit i (f : Int) σ) (fun _ σ' => zfo oMg σ0 σ' ∧ gok x T bar one a σ' ∧ zrd σ' 273 31 = (fitf (fpr T one a bar) limit i 900).1 ∧ zrd σ' 273 32 = (fitf (fpr T one a bar) limit i 900).2 ∧ zrd σ' 273 33 = (lstf (fpr T one a bar) 900).1 ∧ zrd σ' 273 34 = (lstf (fpr T one a bar) 900).2 ∧ (∀ k, k < 26 → zrd σ' 273 k = zrd σ0 273 k))
  | 0, m + 1, f, σ, _, hf, ff, hk, e1, e2, e3, e4, e5 => by
    rw [fM_goThrough_23]
    simp only [zwp_let]
    have : f = 900 := by omega
    subst this
    rw [if_pos (by omega), zwp_some]
    exact ⟨ff, hk, e1, e2, e3, e4, e5⟩
  | d + 1, m + 1, f, σ, hm', hf, ff, hk, e1, e2, e3, e4, e5 => by
    obtain ⟨g1, g2, g3, g4, g5, g6, b, g7⟩ := hk
    have hTl := g2.2.1
    have hP := fun k => fpr_bd hTl one a bar k
    have hPf := hP f
    have bf := fitf_bd (fpr T one a bar) limit i f
    have cf := fitf_c (fpr T one a bar) limit i f (by omega)
    have bl := lstf_bd (fpr T one a bar) (fun k => by have := hP k; omega) f (by omega)
    have cb := fcode_bd f (by omega)
    have sf : fitf (fpr T one a bar) limit i (f + 1) = if fpr T one a bar f ≤ limit then ((fitf (fpr T one a bar) limit i f).1 + 1, if (fitf (fpr T one a bar) limit i f).1 = i then fcode f else (fitf (fpr T one a bar) limit i f).2) else fitf (fpr T one a bar) limit i f := rfl
    have sl : lstf (fpr T one a bar) (f + 1) = if (lstf (fpr T one a bar) f).1 < 0 ∨ fpr T one a bar f < (lstf (fpr T one a bar) f).1 then (fpr T one a bar f, fcode f) else lstf (fpr T one a bar) f := rfl
    have ez : zw ((f : Int) + 1) = ((f + 1 : Nat) : Int) := zwj (by omega) (by omega)
    have em : zw (Int.tdiv (f : Int) 450 + 1) = ((f / 450 + 1 : Nat) : Int) := by rw [show Int.tdiv (f : Int) 450 = ((f / 450 : Nat) : Int) from rfl, zwj (by omega) (by omega)]; omega
    have eh : zw (Int.tmod (f : Int) 25 - 12) = ((f % 25 : Nat) : Int) - 12 := by rw [show Int.tmod (f : Int) 25 = ((f % 25 : Nat) : Int) from rfl, zwj (by omega) (by omega)]
    have ed : zw (Int.tmod (zw (Int.tdiv (f : Int) 25)) 9) = ((f / 25 % 9 : Nat) : Int) := by
      rw [show Int.tdiv (f : Int) 25 = ((f / 25 : Nat) : Int) from rfl, zwj (a := ((f / 25 : Nat) : Int)) (by omega) (by omega), show Int.tmod ((f / 25 : Nat) : Int) 9 = ((f / 25 % 9 : Nat) : Int) from rfl, zwj (by omega) (by omega)]
    have et : zw (Int.tmod (zw (Int.tdiv (f : Int) 225)) 2) = ((f / 225 % 2 : Nat) : Int) := by
      rw [show Int.tdiv (f : Int) 225 = ((f / 225 : Nat) : Int) from rfl, zwj (a := ((f / 225 : Nat) : Int)) (by omega) (by omega), show Int.tmod ((f / 225 : Nat) : Int) 2 = ((f / 225 % 2 : Nat) : Int) from rfl, zwj (by omega) (by omega)]
    have ih := fun σ1 => pM_goThrough_23 (x := x) (T := T) (bar := bar) h1 ha limit i hi σ0 d m (f + 1) σ1 (by omega) (by omega)
    have main : ∀ tr : Int, (tr = 0 ↔ ¬ f / 225 % 2 = 1) → zwp (fM_goThrough_70 (fun x1 x2 x3 x4 σ => fM_goThrough_23 m x1 x2 x3 x4 σ) (x : Int) limit i (f : Int) (((f % 25 : Nat) : Int) - 12) ((f / 25 % 9 : Nat) : Int) tr σ) (fun _ σ' => zfo oMg σ0 σ' ∧ gok x T bar one a σ' ∧ zrd σ' 273 31 = (fitf (fpr T one a bar) limit i 900).1 ∧ zrd σ' 273 32 = (fitf (fpr T one a bar) limit i 900).2 ∧ zrd σ' 273 33 = (lstf (fpr T one a bar) 900).1 ∧ zrd σ' 273 34 = (lstf (fpr T one a bar) 900).2 ∧ (∀ k, k < 26 → zrd σ' 273 k = zrd σ0 273 k)) := by
      intro tr htr
      unfold fM_goThrough_70
      rw [zwp_let, em, zwp_bv]
      refine zwp_mono (qM_layForm ha.1 ha.2 1 (by omega) (((f % 25 : Nat) : Int) - 12) (by omega) (f / 25 % 9) (by omega) tr (f / 450 + 1) (by omega) σ g7 g6) (fun r σ1 ⟨f1, v1⟩ => ?_)
      rw [updl2, lff_lfo (by omega) tr htr] at v1
      have hmk : mok x T bar (updl (updl (fun _ => zln) 0 (lfo one 12)) 1 (lfo a f)) σ1 := by
        refine ⟨g1, TRm_fo f1 (by unfold oSh; omega) g2, g3, by rw [f1.rd (by unfold oSh; omega)]; exact g4, g5, v1, fun v hv => ?_⟩
        unfold updl
        split
        · exact lfo_sm ha.1 f
        · split
          · exact lfo_sm h1.1 12
          · exact zln_sm
      rw [zwp_bi]
      refine zwp_mono (qM_judge hmk 0 (by omega) (-1) (by decide)) (fun r2 σ2 ⟨j1, j2, j3, j4, j5⟩ => ?_)
      have hsum : lsum (abk T (updl (updl (fun _ => zln) 0 (lfo one 12)) 1 (lfo a f)) bar (32 - 0) 0) = fpr T one a bar f := by
        rw [Nat.sub_zero, lsum_two rfl rfl]
        unfold fpr
        rfl
      rw [hsum, zwj (a := fpr T one a bar f) (by omega) (by omega)] at j5
      rw [j5, zwj (a := fpr T one a bar f) (by omega) (by omega)]
      have f12 : zfo oMg σ σ2 := (f1.mono (fun q z => by unfold oSh at z; unfold oMg; omega)).tr (j1.mono (fun q z => by unfold oMJ at z; unfold oMg; omega))
      have k2 : gok x T bar one a σ2 := by
        refine ⟨g1, TRm_fo f12 (by unfold oMg; omega) g2, g3, by rw [f12.rd (by unfold oMg; omega)]; exact g4, g5, fun b hb => by rw [f12.rd (by unfold oMg; omega)]; exact g6 b hb, lfo a f, MV_fo v1 j1 (by unfold oMJ; omega) (by unfold oMJ; omega)⟩
      have q : ∀ k, k ≠ 26 → k ≠ 27 → k ≠ 28 → zrd σ2 273 k = zrd σ 273 k := fun k a b c => by rw [j2 k a b c, f1.rd (by unfold oSh; omega)]
      have gokc : ∀ τ, zfo (oO 273) σ2 τ → gok x T bar one a τ := by
        intro τ fτ
        obtain ⟨y1, y2, y3, y4, y5, y6, b', y7⟩ := k2
        exact ⟨y1, TRm_fo fτ (oO_ne (by omega)) y2, y3, by rw [fτ.rd (oO_ne (by omega))]; exact y4, y5, fun b hb => by rw [fτ.rd (oO_ne (by omega))]; exact y6 b hb, b', MV_fo y7 fτ (oO_ne (by omega)) (oO_ne (by omega))⟩
      -- the least
      have k141 : ∀ τ, zfo (oO 273) σ2 τ → zrd τ 273 31 = (fitf (fpr T one a bar) limit i (f + 1)).1 → zrd τ 273 32 = (fitf (fpr T one a bar) limit i (f + 1)).2 → (∀ k, k ≠ 31 → k ≠ 32 → zrd τ 273 k = zrd σ2 273 k) → zwp (fM_goThrough_141 (fun x1 x2 x3 x4 σ => fM_goThrough_23 m x1 x2 x3 x4 σ) (x : Int) limit i (f : Int) (((f % 25 : Nat) : Int) - 12) ((f / 25 % 9 : Nat) : Int) tr ((f / 450 + 1 : Nat) : Int) (fpr T one a bar f) τ) (fun _ σ' => zfo oMg σ0 σ' ∧ gok x T bar one a σ' ∧ zrd σ' 273 31 = (fitf (fpr T one a bar) limit i 900).1 ∧ zrd σ' 273 32 = (fitf (fpr T one a bar) limit i 900).2 ∧ zrd σ' 273 33 = (lstf (fpr T one a bar) 900).1 ∧ zrd σ' 273 34 = (lstf (fpr T one a bar) 900).2 ∧ (∀ k, k < 26 → zrd σ' 273 k = zrd σ0 273 k)) := by
        intro τ fτ t1 t2 t3
        have t33 : zrd τ 273 33 = (lstf (fpr T one a bar) f).1 := by rw [t3 33 (by decide) (by decide), q 33 (by decide) (by decide) (by decide), e3]
        have t34 : zrd τ 273 34 = (lstf (fpr T one a bar) f).2 := by rw [t3 34 (by decide) (by decide), q 34 (by decide) (by decide) (by decide), e4]
        have t26 : ∀ k, k < 26 → zrd τ 273 k = zrd σ0 273 k := fun k hk => by rw [t3 k (by omega) (by omega), q k (by omega) (by omega) (by omega), e5 k hk]
        have fτ' : zfo oMg σ0 τ := (ff.tr f12).tr (fτ.mono (fun q z => Or.inl z))
        have k157 : ((lstf (fpr T one a bar) f).1 < 0 ∨ fpr T one a bar f < (lstf (fpr T one a bar) f).1) → zwp (fM_goThrough_157 (fun x1 x2 x3 x4 σ => fM_goThrough_23 m x1 x2 x3 x4 σ) (x : Int) limit i (f : Int) (((f % 25 : Nat) : Int) - 12) ((f / 25 % 9 : Nat) : Int) tr ((f / 450 + 1 : Nat) : Int) (fpr T one a bar f) τ) (fun _ σ' => zfo oMg σ0 σ' ∧ gok x T bar one a σ' ∧ zrd σ' 273 31 = (fitf (fpr T one a bar) limit i 900).1 ∧ zrd σ' 273 32 = (fitf (fpr T one a bar) limit i 900).2 ∧ zrd σ' 273 33 = (lstf (fpr T one a bar) 900).1 ∧ zrd σ' 273 34 = (lstf (fpr T one a bar) 900).2 ∧ (∀ k, k < 26 → zrd σ' 273 k = zrd σ0 273 k)) := by
          intro hc
          rw [if_pos hc] at sl
          unfold fM_goThrough_157
          refine zwp_st (fun τ1 u1 w1 => ?_)
          rw [zwp_bi, qM_formCode τ1 f (by omega) tr htr, zwp_some, zwj (a := fcode f) (by omega) (by omega)]
          refine zwp_st (fun τ2 u2 w2 => ?_)
          rw [ez]
          refine ih τ2 ((fτ'.tr (u1.mono (fun q z => Or.inl z))).tr (u2.mono (fun q z => Or.inl z))) (gokc τ2 ((fτ.tr u1).tr u2)) ?_ ?_ ?_ ?_ (fun k hk => ?_)
          · rw [w2, if_neg (by omega), w1, if_neg (by omega), t1]
          · rw [w2, if_neg (by omega), w1, if_neg (by omega), t2]
          · rw [w2, if_neg (by omega), w1, if_pos rfl, sl, zwj (by omega) (by omega)]
          · rw [w2, if_pos rfl, sl, zwj (by omega) (by omega)]
          · rw [w2, if_neg (by omega), w1, if_neg (by omega), t26 k hk]
        unfold fM_goThrough_141
        rw [zwp_let, t33]
        by_cases c1 : (lstf (fpr T one a bar) f).1 < 0
        · rw [if_pos c1]
          exact k157 (Or.inl c1)
        · rw [if_neg c1, zwp_let]
          by_cases c2 : (lstf (fpr T one a bar) f).1 ≤ fpr T one a bar f
          · rw [if_pos c2, ez]
            rw [if_neg (by omega)] at sl
            exact ih τ fτ' (gokc τ fτ) t1 t2 (by rw [sl]; exact t33) (by rw [sl]; exact t34) t26
          · rw [if_neg c2]
            exact k157 (Or.inr (by omega))
      by_cases c : limit < fpr T one a bar f
      · rw [if_pos c]
        rw [if_neg (by omega)] at sf
        exact k141 σ2 zfo.rf (by rw [sf, q 31 (by decide) (by decide) (by decide), e1]) (by rw [sf, q 32 (by decide) (by decide) (by decide), e2]) (fun k _ _ => rfl)
      · rw [if_neg c, zwp_let, q 31 (by decide) (by decide) (by decide), e1]
        rw [if_pos (by omega)] at sf
        have k131 : ∀ τ, zfo (oO 273) σ2 τ → zrd τ 273 31 = (fitf (fpr T one a bar) limit i f).1 → zrd τ 273 32 = (fitf (fpr T one a bar) limit i (f + 1)).2 → (∀ k, k ≠ 31 → k ≠ 32 → zrd τ 273 k = zrd σ2 273 k) → zwp (fM_goThrough_131 (fun x1 x2 x3 x4 σ => fM_goThrough_23 m x1 x2 x3 x4 σ) (x : Int) limit i (f : Int) (((f % 25 : Nat) : Int) - 12) ((f / 25 % 9 : Nat) : Int) tr ((f / 450 + 1 : Nat) : Int) (fpr T one a bar f) τ) (fun _ σ' => zfo oMg σ0 σ' ∧ gok x T bar one a σ' ∧ zrd σ' 273 31 = (fitf (fpr T one a bar) limit i 900).1 ∧ zrd σ' 273 32 = (fitf (fpr T one a bar) limit i 900).2 ∧ zrd σ' 273 33 = (lstf (fpr T one a bar) 900).1 ∧ zrd σ' 273 34 = (lstf (fpr T one a bar) 900).2 ∧ (∀ k, k < 26 → zrd σ' 273 k = zrd σ0 273 k)) := by
          intro τ fτ t1 t2 t3
          unfold fM_goThrough_131
          rw [zwp_let, t1]
          refine zwp_st (fun τ1 u1 w1 => k141 τ1 (fτ.tr u1) ?_ ?_ (fun k k1 k2 => ?_))
          · rw [w1, if_pos rfl, sf, zwj (by omega) (by omega)]
          · rw [w1, if_neg (by omega), t2]
          · rw [w1, if_neg k1, t3 k k1 k2]
        by_cases c2 : (fitf (fpr T one a bar) limit i f).1 = i
        · rw [ifnn c2, zwp_bi, qM_formCode σ2 f (by omega) tr htr, zwp_some, zwj (a := fcode f) (by omega) (by omega)]
          refine zwp_st (fun τ1 u1 w1 => k131 τ1 u1 ?_ ?_ (fun k k1 k2 => ?_))
          · rw [w1, if_neg (by omega), q 31 (by decide) (by decide) (by decide), e1]
          · rw [w1, if_pos rfl, sf, zwj (by omega) (by omega)]
            show fcode f = if (fitf (fpr T one a bar) limit i f).1 = i then fcode f else (fitf (fpr T one a bar) limit i f).2
            rw [if_pos c2]
          · rw [w1, if_neg k2]
        · rw [if_pos c2]
          refine k131 σ2 zfo.rf (by rw [q 31 (by decide) (by decide) (by decide), e1]) ?_ (fun k _ _ => rfl)
          rw [q 32 (by decide) (by decide) (by decide), e2, sf]
          show _ = if (fitf (fpr T one a bar) limit i f).1 = i then fcode f else (fitf (fpr T one a bar) limit i f).2
          rw [if_neg c2]
    rw [fM_goThrough_23]
    simp only [zwp_let]
    rw [if_neg (by omega), zwp_let, zwp_let, eh, ed, et]
    by_cases c : f / 225 % 2 = 1
    · rw [ifnn (by omega)]
      exact main 1 ⟨fun q => absurd q (by decide), fun q => absurd c q⟩
    · rw [if_pos (by omega)]
      exact main 0 ⟨fun _ => c, fun _ => rfl⟩
theorem qM_goThrough {x : Nat} {T : List Cl} {bar : Int} {one a : Ln} (h1 : LSb one) (ha : LSb a) (limit i : Int) (hi : zw i = i) (σ : Zm) (hk : gok x T bar one a σ) : zwp (fM_goThrough σ (x : Int) limit i) (fun _ σ' => zfo oMg σ σ' ∧ gok x T bar one a σ' ∧ zrd σ' 273 31 = (fitf (fpr T one a bar) limit i 900).1 ∧ zrd σ' 273 32 = (fitf (fpr T one a bar) limit i 900).2 ∧ zrd σ' 273 33 = (lstf (fpr T one a bar) 900).1 ∧ zrd σ' 273 34 = (lstf (fpr T one a bar) 900).2 ∧ (∀ k, k < 26 → zrd σ' 273 k = zrd σ 273 k)) := by
  unfold fM_goThrough
  refine zwp_st (fun τ1 u1 w1 => ?_)
  refine zwp_st (fun τ2 u2 w2 => ?_)
  refine zwp_st (fun τ3 u3 w3 => ?_)
  refine zwp_st (fun τ4 u4 w4 => ?_)
  have fτ : zfo (oO 273) σ τ4 := ((u1.tr u2).tr u3).tr u4
  obtain ⟨y1, y2, y3, y4, y5, y6, b', y7⟩ := hk
  refine pM_goThrough_23 h1 ha limit i hi σ 900 5000 0 τ4 (by omega) (by omega) (fτ.mono (fun q z => Or.inl z)) ⟨y1, TRm_fo fτ (oO_ne (by omega)) y2, y3, by rw [fτ.rd (oO_ne (by omega))]; exact y4, y5, fun b hb => by rw [fτ.rd (oO_ne (by omega))]; exact y6 b hb, b', MV_fo y7 fτ (oO_ne (by omega)) (oO_ne (by omega))⟩ ?_ ?_ ?_ ?_ (fun k hk => ?_)
  · rw [w4, if_neg (by omega), w3, if_neg (by omega), w2, if_neg (by omega), w1, if_pos rfl]; rfl
  · rw [w4, if_neg (by omega), w3, if_neg (by omega), w2, if_pos rfl]; rfl
  · rw [w4, if_neg (by omega), w3, if_pos rfl]; rfl
  · rw [w4, if_pos rfl]; rfl
  · rw [w4, if_neg (by omega), w3, if_neg (by omega), w2, if_neg (by omega), w1, if_neg (by omega)]
/-- subject one laid as it is -/
theorem qM_takeForm {U : Nat → Ln} {A : Nat → Ln} (s : Nat) (hs : s < 6) (hU : vok (-20) 20 12 (U s)) (v : Nat) (hv : v < 4) (h : Int) (hh : -12 ≤ h ∧ h ≤ 12) (d : Nat) (hd : d ≤ 8) (tr : Int) (m : Nat) (hm : m = 1 ∨ m = 2) (σ : Zm) (hA : MV A σ) (hM : MSu 274 σ U) : zwp (fM_takeForm σ (s : Int) (v : Int) h (d : Int) tr (m : Int)) (fun _ σ' => zfo (fun q => oSh q ∨ q = 285) σ σ' ∧ MV (updl A v (lff (U s) h d tr m)) σ') := by
  unfold fM_takeForm
  refine qM_take s hs hU σ hM (fun σ1 f1 d1 => ?_)
  rw [zwp_bv]
  refine zwp_mono (qM_layForm (vok_ss hU) (vok_k hU) v hv h hh d hd tr m hm σ1 (MV_fo hA f1 (oO_ne (by omega)) (oO_ne (by omega))) d1) (fun r σ2 ⟨f2, v2⟩ => ?_)
  rw [zwp_some]
  exact ⟨(f1.mono (fun q z => Or.inr z)).tr (f2.mono (fun q z => Or.inl z)), v2⟩
theorem lff_12 (a : Ln) : lff a 0 0 0 1 = lfo a 12 := lff_lfo (f := 12) (by omega) 0 ⟨fun _ => by decide, fun _ => rfl⟩
theorem MSu_fo {D : Nat → Prop} {o : Nat} {σ σ1 : Zm} {U : Nat → Ln} (h : MSu o σ U) (hf : zfo D σ σ1) (hD : ¬ D o) : MSu o σ1 U := fun s b hs hb => by rw [hf.rd hD]; exact h s b hs hb
theorem vok_LSb {a : Ln} (h : vok (-20) 20 12 a) : LSb a := ⟨vok_ss h, vok_k h⟩
theorem qM_prepare {x : Nat} {T : List Cl} {bar : Int} {U : Nat → Ln} (s r : Nat) (hs : s < 6) (hr : r < 6) (hU : ∀ s, vok (-20) 20 12 (U s)) (σ : Zm) (hM : MSu 274 σ U) (hx : x < 6) (hT : TRm σ x T) (hW : WF T) (hb : zrd σ 274 0 = bar) (hbb : 1 ≤ bar ∧ bar ≤ 12) : zwp (fM_prepare σ (s : Int) (r : Int)) (fun _ σ' => zfo (fun q => oSh q ∨ q = 285) σ σ' ∧ gok x T bar (U s) (U r) σ') := by
  unfold fM_prepare
  rw [zwp_bv]
  refine zwp_mono (qM_clearSheet σ) (fun _ σ1 ⟨f1, v1⟩ => ?_)
  rw [zwp_bv]
  refine zwp_mono (qM_takeForm s hs (hU s) 0 (by omega) 0 (by omega) 0 (by omega) 0 1 (Or.inl rfl) σ1 v1 (MSu_fo hM f1 (by unfold oSh; omega))) (fun _ σ2 ⟨f2, v2⟩ => ?_)
  rw [lff_12] at v2
  have f12 : zfo (fun q => oSh q ∨ q = 285) σ σ2 := (f1.mono (fun q z => Or.inl z)).tr f2
  refine qM_take r hr (hU r) σ2 (MSu_fo hM f12 (by unfold oSh; omega)) (fun σ3 f3 d3 => ?_)
  rw [zwp_some]
  have f13 := f12.tr (f3.mono (fun q z => Or.inr z))
  refine ⟨f13, hx, TRm_fo f13 (by unfold oSh; omega) hT, hW, by rw [f13.rd (by unfold oSh; omega)]; exact hb, hbb, d3, zln, ?_⟩
  have e : updl (updl (fun _ => zln) 0 (lfo (U s) 12)) 1 zln = updl (fun _ => zln) 0 (lfo (U s) 12) := by
    funext i
    unfold updl
    by_cases c : i = 1
    · rw [if_pos c, if_neg (by omega)]
    · rw [if_neg c]
  rw [e]
  exact MV_fo v2 f3 (oO_ne (by omega)) (oO_ne (by omega))

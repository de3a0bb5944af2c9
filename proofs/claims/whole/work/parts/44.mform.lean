/-! MY OWN: the reference's forms -/
def md (p : Int × Int) : Int := if p.1 = 0 then -1000 else if p.1 = 1 then p.2 else p.2 + 100000
def MD (a : Ln) (σ : Zm) : Prop := ∀ b, b < 12 → zrd σ 285 b = md (a b)
theorem pM_takeSubject_2 {U : Nat → Ln} (s : Nat) (hs : s < 6) (σ0 : Zm) (hm : MSu 274 σ0 U) : ∀ (d m b : Nat) (σ : Zm), d < m → b + d = 12 → zfo (oO 285) σ0 σ → (∀ k, k < b → zrd σ 285 k = sc (U s k)) → zwp (fM_takeSubject_2 m (s : Int) (b : Int) σ) (fun _ σ' => zfo (oO 285) σ0 σ' ∧ ∀ k, k < 12 → zrd σ' 285 k = sc (U s k))
  | 0, m + 1, b, σ, _, hb, hf, hv => by
    rw [fM_takeSubject_2]
    simp only [zwp_let]
    rw [if_pos (by omega), zwp_some]
    exact ⟨hf, fun k hk => hv k (by omega)⟩
  | d + 1, m + 1, b, σ, hm', hb, hf, hv => by
    have hc := hm s b hs (by omega)
    have hw : zw (sc (U s b)) = sc (U s b) := by rw [← hc]; exact zw_rd _ _ _
    rw [fM_takeSubject_2]
    simp only [zwp_let]
    rw [if_neg (by omega), show zw (530 + 12 * (s : Int) + (b : Int)) = ((530 + 12 * s + b : Nat) : Int) by rw [zwj (by omega) (by omega)]; omega, zckj (by omega) (by omega), zwp_let, Int.toNat_natCast (530 + 12 * s + b), hf.rd (oO_ne (by omega)), hc, zckj (by omega) (by omega), Int.toNat_natCast, show zw ((b : Int) + 1) = ((b + 1 : Nat) : Int) from zwj (by omega) (by omega)]
    refine zwp_st (fun σ1 f1 v1 => ?_)
    refine pM_takeSubject_2 s hs σ0 hm d m (b + 1) σ1 (by omega) (by omega) (hf.tr f1) (fun k hk => ?_)
    rw [v1]
    by_cases c : k = b
    · rw [if_pos c, hw, c]
    · rw [if_neg c]; exact hv k (by omega)
theorem pM_liftHeld_2 {a : Ln} (ha : vok (-20) 20 12 a) (σ0 : Zm) : ∀ (d m b : Nat) (σ : Zm), d < m → b + d = 12 → zfo (oO 285) σ0 σ → (∀ k, k < 12 → zrd σ 285 k = if k < b then md (a k) else sc (a k)) → zwp (fM_liftHeld_2 m (b : Int) σ) (fun _ σ' => zfo (oO 285) σ0 σ' ∧ MD a σ')
  | 0, m + 1, b, σ, _, hb, hf, hv => by
    rw [fM_liftHeld_2]
    simp only [zwp_let]
    rw [if_pos (by omega), zwp_some]
    exact ⟨hf, fun k hk => by rw [hv k hk, if_pos (by omega)]⟩
  | d + 1, m + 1, b, σ, hm', hb, hf, hv => by
    have hab := ha b
    have hcb := hv b (by omega)
    rw [if_neg (by omega)] at hcb
    have ez : zw ((b : Int) + 1) = ((b + 1 : Nat) : Int) := zwj (by omega) (by omega)
    have ih := pM_liftHeld_2 ha σ0 d m (b + 1)
    rw [fM_liftHeld_2]
    simp only [zwp_let]
    unfold fM_isHeld
    rw [if_neg (by omega), zckj (by omega) (by omega), zwp_let, Int.toNat_natCast, hcb, ez, zwp_bi]
    have same : sc (a b) = md (a b) → zwp (fM_liftHeld_2 m ((b + 1 : Nat) : Int) σ) (fun _ σ' => zfo (oO 285) σ0 σ' ∧ MD a σ') := by
      intro he
      refine ih σ (by omega) (by omega) hf (fun k hk => ?_)
      rw [hv k hk]
      by_cases c : k = b
      · rw [c, if_neg (by omega), if_pos (by omega), he]
      · exact ite_cg (by omega)
    rcases hab.1 with q | ⟨q | q, q2, q3⟩
    · have e : sc (a b) = -1000 := by rw [q]; rfl
      rw [e, if_pos (by decide), zwp_some, if_pos (by decide)]
      exact same (by rw [q]; rfl)
    · have e : sc (a b) = (a b).2 := by unfold sc; rw [if_neg (by omega), if_pos q]
      rw [e, if_pos (by omega), zwp_some, if_pos (by decide)]
      exact same (by rw [e]; unfold md; rw [if_neg (by omega), if_pos q])
    · have e : sc (a b) = (a b).2 + 100 := by unfold sc; rw [if_neg (by omega), if_neg (by omega)]
      rw [e, if_neg (by omega), zwp_some, if_neg (by decide), zckj (by omega) (by omega), zwp_let, zckj (by omega) (by omega), hcb, e]
      refine zwp_st (fun σ1 f1 v1 => ?_)
      refine ih σ1 (by omega) (by omega) (hf.tr f1) (fun k hk => ?_)
      rw [v1]
      by_cases c : k = b
      · rw [c, if_pos rfl, if_pos (by omega), zwj (by omega) (by omega)]
        unfold md
        rw [if_neg (by omega), if_neg (by omega)]
        omega
      · rw [if_neg c, hv k hk]
        exact ite_cg (by omega)
theorem qM_take {U : Nat → Ln} (s : Nat) (hs : s < 6) (hU : vok (-20) 20 12 (U s)) (σ : Zm) (hm : MSu 274 σ U) {F : Zm → Zr} {P : Int → Zm → Prop} (hF : ∀ σ', zfo (oO 285) σ σ' → MD (U s) σ' → zwp (F σ') P) : zwp (zbv (fM_takeSubject σ (s : Int)) fun σ1 => zbv (fM_liftHeld σ1) fun σ2 => F σ2) P := by
  rw [zwp_bv]
  unfold fM_takeSubject
  refine zwp_mono (pM_takeSubject_2 s hs σ hm 12 5000 0 σ (by omega) (by omega) zfo.rf (fun k hk => by omega)) (fun r σ1 ⟨f1, v1⟩ => ?_)
  rw [zwp_bv]
  unfold fM_liftHeld
  refine zwp_mono (pM_liftHeld_2 hU σ1 12 5000 0 σ1 (by omega) (by omega) zfo.rf (fun k hk => by rw [if_neg (by omega)]; exact v1 k hk)) (fun r σ2 ⟨f2, v2⟩ => hF σ2 (f1.tr f2) v2)
theorem lfm1_s {a : Ln} {d : Nat} {h sg : Int} {B : Nat} (t : Nat) : lfm1 a d h sg (B + 1) t = if (a B).1 ≠ 0 ∧ t = d + 1 * B then ((a B).1, h + sg * (a B).2) else lfm1 a d h sg B t := by
  unfold lfm1
  by_cases c : (a B).1 ≠ 0 ∧ t = d + 1 * B
  · obtain ⟨c1, rfl⟩ := c
    rw [show (d + 1 * B - d) / 1 = B by omega, if_pos (show d ≤ d + 1 * B ∧ d + 1 * B < d + 1 * (B + 1) ∧ (a B).1 ≠ 0 from ⟨by omega, by omega, c1⟩), if_pos (show (d + 1 * B - d) % 1 = 0 by omega), if_pos (show (a B).1 ≠ 0 ∧ d + 1 * B = d + 1 * B from ⟨c1, rfl⟩)]
  · rw [if_neg c]
    grind
theorem lfm2_s {a : Ln} {d : Nat} {h sg : Int} {B : Nat} (t : Nat) : lfm2 a d h sg (B + 1) t = if (a B).1 ≠ 0 ∧ t = d + 2 * B then ((a B).1, h + sg * (a B).2) else if (a B).1 ≠ 0 ∧ t = d + 2 * B + 1 then (2, h + sg * (a B).2) else lfm2 a d h sg B t := by
  unfold lfm2
  by_cases c : (a B).1 ≠ 0 ∧ t = d + 2 * B
  · obtain ⟨c1, rfl⟩ := c
    rw [show (d + 2 * B - d) / 2 = B by omega, if_pos (show d ≤ d + 2 * B ∧ d + 2 * B < d + 2 * (B + 1) ∧ (a B).1 ≠ 0 from ⟨by omega, by omega, c1⟩), if_pos (show (d + 2 * B - d) % 2 = 0 by omega), if_pos (show (a B).1 ≠ 0 ∧ d + 2 * B = d + 2 * B from ⟨c1, rfl⟩)]
  · rw [if_neg c]
    by_cases c2 : (a B).1 ≠ 0 ∧ t = d + 2 * B + 1
    · obtain ⟨c1, rfl⟩ := c2
      rw [show (d + 2 * B + 1 - d) / 2 = B by omega, if_pos (show d ≤ d + 2 * B + 1 ∧ d + 2 * B + 1 < d + 2 * (B + 1) ∧ (a B).1 ≠ 0 from ⟨by omega, by omega, c1⟩), if_neg (show ¬ (d + 2 * B + 1 - d) % 2 = 0 by omega), if_pos (show (a B).1 ≠ 0 ∧ d + 2 * B + 1 = d + 2 * B + 1 from ⟨c1, rfl⟩)]
    · rw [if_neg c2]
      grind
def shv (x : Int × Int) : Int := if x.1 = 0 then -1000 else x.2
def bgv (x : Int × Int) : Int := if x.1 = 1 then 1 else 0
/-- a row of the sheet, cell by cell -/
def row (v : Nat) (a : Ln) (σ : Zm) : Prop := ∀ t, t < 32 → zrd σ 282 (32 * v + t) = shv (a t) ∧ zrd σ 283 (32 * v + t) = bgv (a t)
def oth (v : Nat) (σ0 σ : Zm) : Prop := ∀ k, (k < 32 * v ∨ 32 * v + 32 ≤ k) → zrd σ 282 k = zrd σ0 282 k ∧ zrd σ 283 k = zrd σ0 283 k
def oSh (q : Nat) : Prop := q = 282 ∨ q = 283
theorem oth.rf {v : Nat} {σ : Zm} : oth v σ σ := fun _ _ => ⟨rfl, rfl⟩
theorem oth.tr {v : Nat} {σ σ1 σ2 : Zm} (h : oth v σ σ1) (h2 : oth v σ1 σ2) : oth v σ σ2 := fun k hk => ⟨(h2 k hk).1.trans (h k hk).1, (h2 k hk).2.trans (h k hk).2⟩
theorem row_put {v t : Nat} {a : Ln} {σ σ1 σ2 : Zm} {x : Int × Int} (hv : v < 4) (ht : t < 32) (h : row v a σ) (f1 : zfo (oO 282) σ σ1) (v1 : ∀ j, zrd σ1 282 j = if j = 32 * v + t then shv x else zrd σ 282 j) (f2 : zfo (oO 283) σ1 σ2) (v2 : ∀ j, zrd σ2 283 j = if j = 32 * v + t then bgv x else zrd σ1 283 j) : row v (fun y => if y = t then x else a y) σ2 ∧ oth v σ σ2 ∧ zfo oSh σ σ2 := by
  have e2 : ∀ j, zrd σ2 282 j = zrd σ1 282 j := fun j => f2.rd (oO_ne (by omega)) j
  have e1 : ∀ j, zrd σ1 283 j = zrd σ 283 j := fun j => f1.rd (oO_ne (by omega)) j
  refine ⟨fun y hy => ?_, fun k hk => ?_, (f1.mono (fun q z => Or.inl z)).tr (f2.mono (fun q z => Or.inr z))⟩
  · show _ = shv (if y = t then x else a y) ∧ _ = bgv (if y = t then x else a y)
    rw [e2, v1, v2, e1]
    by_cases c : y = t
    · rw [c, if_pos rfl, if_pos rfl, if_pos rfl]
      exact ⟨rfl, rfl⟩
    · simp only [if_neg c, if_neg (show ¬ 32 * v + y = 32 * v + t by omega)]
      exact h y hy
  · rw [e2, v1, v2, e1, if_neg (by omega), if_neg (by omega)]
    exact ⟨rfl, rfl⟩
theorem pM_layForm_3 (v : Nat) (hv : v < 4) (σ0 : Zm) (x2 x3 x4 x5 : Int) (P : Int → Zm → Prop) (K : Int → Int → Int → Int → Int → Zm → Zr) (hK : ∀ σ', zfo oSh σ0 σ' → oth v σ0 σ' → row v (fun _ => (0, 0)) σ' → zwp (K (v : Int) x2 x3 x4 x5 σ') P) : ∀ (d m t : Nat) (σ : Zm), d < m → t + d = 32 → zfo oSh σ0 σ → oth v σ0 σ → (∀ y, y < t → zrd σ 282 (32 * v + y) = -1000 ∧ zrd σ 283 (32 * v + y) = 0) → zwp (fM_layForm_3 m (v : Int) x2 x3 x4 x5 (t : Int) σ K) P
  | 0, m + 1, t, σ, _, ht, hf, ho, hr => by
    rw [fM_layForm_3]
    simp only [zwp_let]
    rw [if_pos (by omega)]
    exact hK σ hf ho (fun y hy => hr y (by omega))
  | d + 1, m + 1, t, σ, hm', ht, hf, ho, hr => by
    rw [fM_layForm_3]
    simp only [zwp_let]
    rw [if_neg (by omega), show zw (32 * (v : Int) + (t : Int)) = ((32 * v + t : Nat) : Int) by rw [zwj (by omega) (by omega)]; omega, zckj (by omega) (by omega), Int.toNat_natCast, show zw ((t : Int) + 1) = ((t + 1 : Nat) : Int) from zwj (by omega) (by omega)]
    refine zwp_st (fun σ1 f1 v1 => ?_)
    rw [zckj (by omega) (by omega)]
    refine zwp_st (fun σ2 f2 v2 => ?_)
    have e2 : ∀ j, zrd σ2 282 j = zrd σ1 282 j := fun j => f2.rd (oO_ne (by omega)) j
    have e1 : ∀ j, zrd σ1 283 j = zrd σ 283 j := fun j => f1.rd (oO_ne (by omega)) j
    refine pM_layForm_3 v hv σ0 x2 x3 x4 x5 P K hK d m (t + 1) σ2 (by omega) (by omega) (hf.tr ((f1.mono (fun q z => Or.inl z)).tr (f2.mono (fun q z => Or.inr z)))) (ho.tr (fun k hk => ?_)) (fun y hy => ?_)
    · rw [e2, v1, v2, e1, if_neg (by omega), if_neg (by omega)]
      exact ⟨rfl, rfl⟩
    · rw [e2, v1, v2, e1]
      by_cases c : y = t
      · rw [c, if_pos rfl, if_pos rfl]
        exact ⟨by decide, by decide⟩
      · rw [if_neg (by omega), if_neg (by omega)]
        exact hr y (by omega)
def tg (tr : Int) : Int := if tr = 0 then 1 else -1
theorem pM_layForm_47_1 {a : Ln} (ha : lss a) (hk : ∀ t, (a t).1 = 0 ∨ (a t).1 = 1 ∨ (a t).1 = 2) (v : Nat) (hv : v < 4) (h : Int) (hh : -12 ≤ h ∧ h ≤ 12) (dl : Nat) (hdl : dl ≤ 8) (tr : Int) (σ0 : Zm) (hm : MD a σ0) : ∀ (d m B : Nat) (σ : Zm), d < m → B + d = 12 → zfo oSh σ0 σ → oth v σ0 σ → row v (lfm1 a dl (30 + h) (tg tr) B) σ → zwp (fM_layForm_47 m (v : Int) h (dl : Int) tr 1 (B : Int) σ) (fun _ σ' => zfo oSh σ0 σ' ∧ oth v σ0 σ' ∧ row v (lfm1 a dl (30 + h) (tg tr) 12) σ')
  | 0, m + 1, B, σ, _, hB, hf, ho, hr => by
    rw [fM_layForm_47]
    simp only [zwp_let]
    have : B = 12 := by omega
    subst this
    rw [if_pos (by omega), zwp_some]
    exact ⟨hf, ho, hr⟩
  | d + 1, m + 1, B, σ, hm', hB, hf, ho, hr => by
    have hc := hm B (by omega)
    have hab := ha B
    have hkb := hk B
    have ez : zw ((B : Int) + 1) = ((B + 1 : Nat) : Int) := zwj (by omega) (by omega)
    have ih := pM_layForm_47_1 ha hk v hv h hh dl hdl tr σ0 hm d m (B + 1)
    have e85 : ∀ j, zrd σ 285 j = zrd σ0 285 j := fun j => hf.rd (by unfold oSh; omega) j
    rw [fM_layForm_47]
    simp only [zwp_let]
    rw [if_neg (by omega), zckj (by omega) (by omega), zwp_let, Int.toNat_natCast, e85, hc]
    by_cases c0 : (a B).1 = 0
    · have e : md (a B) = -1000 := by unfold md; rw [if_pos c0]
      rw [e, ifnn rfl, ez]
      refine ih σ (by omega) (by omega) hf ho ?_
      have : lfm1 a dl (30 + h) (tg tr) (B + 1) = lfm1 a dl (30 + h) (tg tr) B := by
        funext t
        rw [lfm1_s]
        rw [if_neg (fun q => q.1 c0)]
      rw [this]
      exact hr
    · have hne : md (a B) ≠ -1000 := by unfold md; split; omega; split <;> omega
      have hmb : md (a B) = if (a B).1 = 1 then (a B).2 else (a B).2 + 100000 := by unfold md; rw [if_neg c0]
      -- the notes of this beat, laid
      have go : ∀ (hel r : Int), (hel = 0 ↔ (a B).1 = 1) → r = (a B).2 → zwp (fM_layForm_108 5000 (v : Int) h (dl : Int) tr 1 (B : Int) hel r 0 σ (fun y20 y21 y22 y23 y24 y25 σ19 => fM_layForm_47 m y20 y21 y22 y23 y24 (zw (y25 + 1)) σ19)) (fun _ σ' => zfo oSh σ0 σ' ∧ oth v σ0 σ' ∧ row v (lfm1 a dl (30 + h) (tg tr) 12) σ') := by
        intro hel r hh1 hr1
        have hpit : ∀ (F : Zm → Zr) (P : Int → Zm → Prop) (k : Nat) (τ : Zm), (if tr = 0 then zlet (zst τ 282 k ((30 + h) + r)) F else zlet (zst τ 282 k ((30 + h) + (-r))) F) = zlet (zst τ 282 k (30 + h + tg tr * (a B).2)) F := by
          intro F P k τ
          unfold tg
          by_cases c : tr = 0
          · rw [if_pos c, if_pos c, hr1, Int.one_mul]
          · rw [if_neg c, if_neg c, hr1, Int.neg_mul, Int.one_mul]
        have hpw : zw (30 + h + tg tr * (a B).2) = 30 + h + tg tr * (a B).2 := by
          unfold tg
          split
          · exact zwj (by omega) (by omega)
          · exact zwj (by omega) (by omega)
        generalize hpv : 30 + h + tg tr * (a B).2 = pv at *
        rw [fM_layForm_108]
        simp only [zwp_let]
        rw [if_neg (by decide), zwp_let, show zw (32 * (v : Int) + (dl : Int) + 1 * (B : Int) + 0) = ((32 * v + (dl + 1 * B + 0) : Nat) : Int) by rw [zwj (by omega) (by omega)]; omega]
        rw [zckj (by omega) (by omega), zckj (by omega) (by omega), Int.toNat_natCast, hpit _ (fun _ _ => True)]
        refine zwp_st (fun τ1 f1 v1 => ?_)
        unfold fM_layForm_157
        have w1 : ∀ j, zrd τ1 282 j = if j = 32 * v + (dl + 1 * B + 0) then shv ((a B).1, pv) else zrd σ 282 j := fun j => by rw [v1, hpw]; unfold shv; rw [if_neg (show ¬ ((a B).1, pv).1 = 0 by exact c0)]
        have fin0 : ∀ τ2, zfo (oO 283) τ1 τ2 → (∀ j, zrd τ2 283 j = if j = 32 * v + (dl + 1 * B + 0) then bgv ((a B).1, pv) else zrd τ1 283 j) → zwp (fM_layForm_108 4999 (v : Int) h (dl : Int) tr 1 (B : Int) hel r (zw (0 + 1)) τ2 (fun y20 y21 y22 y23 y24 y25 σ19 => fM_layForm_47 m y20 y21 y22 y23 y24 (zw (y25 + 1)) σ19)) (fun _ σ' => zfo oSh σ0 σ' ∧ oth v σ0 σ' ∧ row v (lfm1 a dl (30 + h) (tg tr) 12) σ') := by
          intro τ2 f2 w2
          obtain ⟨p1, p2, p3⟩ := row_put hv (by omega) hr f1 w1 f2 w2
          rw [show zw (0 + 1) = 1 by decide]
          rw [fM_layForm_108]
          simp only [zwp_let]
          rw [if_pos (by decide), ez]
          refine ih τ2 (by omega) (by omega) (hf.tr p3) (ho.tr p2) ?_
          have : lfm1 a dl (30 + h) (tg tr) (B + 1) = (fun y => if y = dl + 1 * B + 0 then ((a B).1, pv) else lfm1 a dl (30 + h) (tg tr) B y) := by
            funext t
            rw [lfm1_s, hpv]
            have : (a B).1 ≠ 0 := c0
            grind
          rw [this]
          exact p1
        by_cases c1 : (a B).1 = 1
        · have h0 := hh1.mpr c1
          rw [ifnn (by first | trivial | rfl), ifnn (show hel = 0 from h0), zckj (by omega) (by omega), Int.toNat_natCast]
          refine zwp_st (fun τ2 f2 w2 => fin0 τ2 f2 (fun j => ?_))
          rw [w2]
          unfold bgv
          rw [if_pos (show ((a B).1, pv).1 = 1 from c1)]
          exact ite_cg Iff.rfl
        · have h0 : ¬ hel = 0 := fun q => c1 (hh1.mp q)
          rw [ifnn (by first | trivial | rfl), if_pos h0, zckj (by omega) (by omega), Int.toNat_natCast]
          refine zwp_st (fun τ2 f2 w2 => fin0 τ2 f2 (fun j => ?_))
          rw [w2]
          unfold bgv
          rw [if_neg (show ¬ ((a B).1, pv).1 = 1 from c1)]
          exact ite_cg Iff.rfl
      unfold fM_isMadeHeld
      rw [if_pos hne, zwp_bi, zckj (by omega) (by omega), zwp_let, Int.toNat_natCast, e85, hc, hmb]
      by_cases c1 : (a B).1 = 1
      · rw [if_pos c1, if_pos (by omega), zwp_some, if_pos (by decide), zckj (by omega) (by omega), zwp_let, e85, hc, hmb, if_pos c1]
        exact go (zw 0) _ ⟨fun _ => c1, fun _ => by decide⟩ rfl
      · rw [if_neg c1, if_neg (by omega), zwp_some, if_neg (by decide), zckj (by omega) (by omega), zwp_let, zwp_let, e85, hc, hmb, if_neg c1, show zw ((a B).2 + 100000 - 100000) = (a B).2 by rw [zwj (by omega) (by omega)]; omega]
        exact go (zw 1) _ ⟨fun q => absurd q (by decide), fun q => absurd q c1⟩ rfl
theorem pM_layForm_47_2 {a : Ln} (ha : lss a) (hk : ∀ t, (a t).1 = 0 ∨ (a t).1 = 1 ∨ (a t).1 = 2) (v : Nat) (hv : v < 4) (h : Int) (hh : -12 ≤ h ∧ h ≤ 12) (dl : Nat) (hdl : dl ≤ 8) (tr : Int) (σ0 : Zm) (hm : MD a σ0) : ∀ (d m B : Nat) (σ : Zm), d < m → B + d = 12 → zfo oSh σ0 σ → oth v σ0 σ → row v (lfm2 a dl (30 + h) (tg tr) B) σ → zwp (fM_layForm_47 m (v : Int) h (dl : Int) tr 2 (B : Int) σ) (fun _ σ' => zfo oSh σ0 σ' ∧ oth v σ0 σ' ∧ row v (lfm2 a dl (30 + h) (tg tr) 12) σ')
  | 0, m + 1, B, σ, _, hB, hf, ho, hr => by
    rw [fM_layForm_47]
    simp only [zwp_let]
    have : B = 12 := by omega
    subst this
    rw [if_pos (by omega), zwp_some]
    exact ⟨hf, ho, hr⟩
  | d + 1, m + 1, B, σ, hm', hB, hf, ho, hr => by
    have hc := hm B (by omega)
    have hab := ha B
    have hkb := hk B
    have ez : zw ((B : Int) + 1) = ((B + 1 : Nat) : Int) := zwj (by omega) (by omega)
    have ih := pM_layForm_47_2 ha hk v hv h hh dl hdl tr σ0 hm d m (B + 1)
    have e85 : ∀ j, zrd σ 285 j = zrd σ0 285 j := fun j => hf.rd (by unfold oSh; omega) j
    rw [fM_layForm_47]
    simp only [zwp_let]
    rw [if_neg (by omega), zckj (by omega) (by omega), zwp_let, Int.toNat_natCast, e85, hc]
    by_cases c0 : (a B).1 = 0
    · have e : md (a B) = -1000 := by unfold md; rw [if_pos c0]
      rw [e, ifnn rfl, ez]
      refine ih σ (by omega) (by omega) hf ho ?_
      have : lfm2 a dl (30 + h) (tg tr) (B + 1) = lfm2 a dl (30 + h) (tg tr) B := by
        funext t
        rw [lfm2_s]
        rw [if_neg (fun q => q.1 c0), if_neg (fun q => q.1 c0)]
      rw [this]
      exact hr
    · have hne : md (a B) ≠ -1000 := by unfold md; split; omega; split <;> omega
      have hmb : md (a B) = if (a B).1 = 1 then (a B).2 else (a B).2 + 100000 := by unfold md; rw [if_neg c0]
      -- the notes of this beat, laid
      have go : ∀ (hel r : Int), (hel = 0 ↔ (a B).1 = 1) → r = (a B).2 → zwp (fM_layForm_108 5000 (v : Int) h (dl : Int) tr 2 (B : Int) hel r 0 σ (fun y20 y21 y22 y23 y24 y25 σ19 => fM_layForm_47 m y20 y21 y22 y23 y24 (zw (y25 + 1)) σ19)) (fun _ σ' => zfo oSh σ0 σ' ∧ oth v σ0 σ' ∧ row v (lfm2 a dl (30 + h) (tg tr) 12) σ') := by
        intro hel r hh1 hr1
        have hpit : ∀ (F : Zm → Zr) (P : Int → Zm → Prop) (k : Nat) (τ : Zm), (if tr = 0 then zlet (zst τ 282 k ((30 + h) + r)) F else zlet (zst τ 282 k ((30 + h) + (-r))) F) = zlet (zst τ 282 k (30 + h + tg tr * (a B).2)) F := by
          intro F P k τ
          unfold tg
          by_cases c : tr = 0
          · rw [if_pos c, if_pos c, hr1, Int.one_mul]
          · rw [if_neg c, if_neg c, hr1, Int.neg_mul, Int.one_mul]
        have hpw : zw (30 + h + tg tr * (a B).2) = 30 + h + tg tr * (a B).2 := by
          unfold tg
          split
          · exact zwj (by omega) (by omega)
          · exact zwj (by omega) (by omega)
        generalize hpv : 30 + h + tg tr * (a B).2 = pv at *
        rw [fM_layForm_108]
        simp only [zwp_let]
        rw [if_neg (by decide), zwp_let, show zw (32 * (v : Int) + (dl : Int) + 2 * (B : Int) + 0) = ((32 * v + (dl + 2 * B + 0) : Nat) : Int) by rw [zwj (by omega) (by omega)]; omega]
        rw [zckj (by omega) (by omega), zckj (by omega) (by omega), Int.toNat_natCast, hpit _ (fun _ _ => True)]
        refine zwp_st (fun τ1 f1 v1 => ?_)
        unfold fM_layForm_157
        have w1 : ∀ j, zrd τ1 282 j = if j = 32 * v + (dl + 2 * B + 0) then shv ((a B).1, pv) else zrd σ 282 j := fun j => by rw [v1, hpw]; unfold shv; rw [if_neg (show ¬ ((a B).1, pv).1 = 0 by exact c0)]
        have fin0 : ∀ τ2, zfo (oO 283) τ1 τ2 → (∀ j, zrd τ2 283 j = if j = 32 * v + (dl + 2 * B + 0) then bgv ((a B).1, pv) else zrd τ1 283 j) → zwp (fM_layForm_108 4999 (v : Int) h (dl : Int) tr 2 (B : Int) hel r (zw (0 + 1)) τ2 (fun y20 y21 y22 y23 y24 y25 σ19 => fM_layForm_47 m y20 y21 y22 y23 y24 (zw (y25 + 1)) σ19)) (fun _ σ' => zfo oSh σ0 σ' ∧ oth v σ0 σ' ∧ row v (lfm2 a dl (30 + h) (tg tr) 12) σ') := by
          intro τ2 f2 w2
          obtain ⟨p1, p2, p3⟩ := row_put hv (by omega) hr f1 w1 f2 w2
          rw [show zw (0 + 1) = 1 by decide]
          rw [fM_layForm_108]
          simp only [zwp_let]
          rw [if_neg (by decide), zwp_let, show zw (32 * (v : Int) + (dl : Int) + 2 * (B : Int) + 1) = ((32 * v + (dl + 2 * B + 1) : Nat) : Int) by rw [zwj (by omega) (by omega)]; omega]
          rw [zckj (by omega) (by omega), zckj (by omega) (by omega), Int.toNat_natCast, hpit _ (fun _ _ => True)]
          refine zwp_st (fun τ3 f3 v3 => ?_)
          unfold fM_layForm_157
          have w3 : ∀ j, zrd τ3 282 j = if j = 32 * v + (dl + 2 * B + 1) then shv ((2 : Int), pv) else zrd τ2 282 j := fun j => by rw [v3, hpw]; unfold shv; rw [if_neg (show ¬ ((2 : Int), pv).1 = 0 by show ¬ (2 : Int) = 0; decide)]
          rw [if_pos (by decide), zckj (by omega) (by omega), Int.toNat_natCast]
          refine zwp_st (fun τ4 f4 v4 => ?_)
          have w4 : ∀ j, zrd τ4 283 j = if j = 32 * v + (dl + 2 * B + 1) then bgv ((2 : Int), pv) else zrd τ3 283 j := fun j => v4 j
          obtain ⟨p4, p5, p6⟩ := row_put hv (by omega) p1 f3 w3 f4 w4
          dsimp only
          rw [show zw (1 + 1) = 2 by decide, fM_layForm_108]
          simp only [zwp_let]
          rw [if_pos (by decide), ez]
          refine ih τ4 (by omega) (by omega) ((hf.tr p3).tr p6) ((ho.tr p2).tr p5) ?_
          have : lfm2 a dl (30 + h) (tg tr) (B + 1) = (fun y => if y = dl + 2 * B + 1 then (2, pv) else (fun y => if y = dl + 2 * B + 0 then ((a B).1, pv) else lfm2 a dl (30 + h) (tg tr) B y) y) := by
            funext t
            rw [lfm2_s, hpv]
            have : (a B).1 ≠ 0 := c0
            grind
          rw [this]
          exact p4
        by_cases c1 : (a B).1 = 1
        · have h0 := hh1.mpr c1
          rw [ifnn (by first | trivial | rfl), ifnn (show hel = 0 from h0), zckj (by omega) (by omega), Int.toNat_natCast]
          refine zwp_st (fun τ2 f2 w2 => fin0 τ2 f2 (fun j => ?_))
          rw [w2]
          unfold bgv
          rw [if_pos (show ((a B).1, pv).1 = 1 from c1)]
          exact ite_cg Iff.rfl
        · have h0 : ¬ hel = 0 := fun q => c1 (hh1.mp q)
          rw [ifnn (by first | trivial | rfl), if_pos h0, zckj (by omega) (by omega), Int.toNat_natCast]
          refine zwp_st (fun τ2 f2 w2 => fin0 τ2 f2 (fun j => ?_))
          rw [w2]
          unfold bgv
          rw [if_neg (show ¬ ((a B).1, pv).1 = 1 from c1)]
          exact ite_cg Iff.rfl
      unfold fM_isMadeHeld
      rw [if_pos hne, zwp_bi, zckj (by omega) (by omega), zwp_let, Int.toNat_natCast, e85, hc, hmb]
      by_cases c1 : (a B).1 = 1
      · rw [if_pos c1, if_pos (by omega), zwp_some, if_pos (by decide), zckj (by omega) (by omega), zwp_let, e85, hc, hmb, if_pos c1]
        exact go (zw 0) _ ⟨fun _ => c1, fun _ => by decide⟩ rfl
      · rw [if_neg c1, if_neg (by omega), zwp_some, if_neg (by decide), zckj (by omega) (by omega), zwp_let, zwp_let, e85, hc, hmb, if_neg c1, show zw ((a B).2 + 100000 - 100000) = (a B).2 by rw [zwj (by omega) (by omega)]; omega]
        exact go (zw 1) _ ⟨fun q => absurd q (by decide), fun q => absurd q c1⟩ rfl

/-! MY OWN: the reference's reader, its small parts -/
def trc (a : Int) : Int := if a = 0 then 40 else if a = 14 then 2 else a - 7
def mD (q : Nat) : Prop := q = 273 ∨ q = 276 ∨ q = 278
def dyn (k : Nat) : Prop := (7 ≤ k ∧ k ≤ 10) ∨ k = 14 ∨ (17 ≤ k ∧ k ≤ 19)
/-- only the token, the code, the pile, the depth differ -/
def XF (x : Nat) (σ σ' : Zm) : Prop := zfo mD σ σ' ∧ (∀ k, ¬ dyn k → zrd σ' 273 k = zrd σ 273 k) ∧ ∀ j, ¬ (900 * x + 60 ≤ j ∧ j < 900 * x + 900) → zrd σ' 276 j = zrd σ 276 j
theorem XF.rf {x : Nat} {σ : Zm} : XF x σ σ := ⟨zfo.rf, fun _ _ => rfl, fun _ _ => rfl⟩
theorem XF.tr {x : Nat} {σ σ1 σ2 : Zm} (h : XF x σ σ1) (h2 : XF x σ1 σ2) : XF x σ σ2 := ⟨h.1.tr h2.1, fun k a => (h2.2.1 k a).trans (h.2.1 k a), fun k a => (h2.2.2 k a).trans (h.2.2 k a)⟩
def MX0 (f : Nat → Int) (L x p : Nat) (C : List Int) (d : Nat) (σ : Zm) : Prop := mtape f L σ ∧ MTk f L (ts f L p) σ ∧ zrd σ 273 12 = ((900 * x : Nat) : Int) ∧ zrd σ 273 14 = (C.length : Int) ∧ sgm (zrd σ 276) (900 * x + 60) C ∧ zrd σ 273 18 = (d : Int)
def PL (P : List Int) (σ : Zm) : Prop := zrd σ 273 17 = (P.length : Int) ∧ sk (zrd σ 278) (P.map trc)
theorem sgm_ap {f : Nat → Int} : ∀ (l : List Int) (i : Nat) (c : Int), sgm f i l → f (i + 2 * l.length) = eno c → (c < 2000 → f (i + 2 * l.length + 1) = eno2 c) → sgm f i (l ++ [c])
  | [], i, c, _, h2, h3 => ⟨⟨h2, h3⟩, trivial⟩
  | a :: l, i, c, h1, h2, h3 => ⟨h1.1, sgm_ap l (i + 2) c h1.2 (by rw [← h2]; congr 1; simp only [List.length_cons]; omega) (fun z => by rw [← h3 z]; congr 1; simp only [List.length_cons]; omega)⟩
theorem MX_KK {f : Nat → Int} {L x p d : Nat} {C : List Int} {σ : Zm} (h : MX0 f L x p C d σ) : KK (tk f L (ts f L p)) (tvl f L (ts f L p)) σ := KK_of h.1 h.2.1.2.2
/-- the token's relation is kept -/
theorem MTk_cg {f : Nat → Int} {L s : Nat} {σ σ' : Zm} (h : MTk f L s σ) (hk : ∀ k, 7 ≤ k → k ≤ 10 → zrd σ' 273 k = zrd σ 273 k) (hl : zrl σ' 273 11 = zrl σ 273 11) : MTk f L s σ' := by
  obtain ⟨h1, h2, h3⟩ := h
  refine ⟨by rw [hk 8 (by omega) (by omega)]; exact h1, by rw [hk 7 (by omega) (by omega)]; exact h2, ?_⟩
  unfold MK at h3 ⊢
  rw [hk 9 (by omega) (by omega), hk 10 (by omega) (by omega), hl]
  exact h3
theorem MX0_st {f : Nat → Int} {L x p d : Nat} {C : List Int} {σ : Zm} {k : Nat} {v : Int} {F : Zm → Zr} {P : Int → Zm → Prop} (h : MX0 f L x p C d σ) (hk : k = 17 ∨ k = 19) (hF : ∀ σ', XF x σ σ' → MX0 f L x p C d σ' → (∀ j, zrd σ' 273 j = if j = k then zw v else zrd σ 273 j) → (∀ j, zrd σ' 278 j = zrd σ 278 j) → zwp (F σ') P) : zwp (zlet (zst σ 273 k v) F) P := by
  have e : ∀ j, zrd (zst σ 273 k v) 273 j = if j = k then zw v else zrd σ 273 j := by
    intro j
    rw [zrd_st]
    by_cases c : j = k
    · rw [if_pos ⟨rfl, c⟩, if_pos c]
    · rw [if_neg (fun z => c z.2), if_neg c]
  have fo : zfo (oO 273) σ (zst σ 273 k v) := zfo.st1 zfo.rf
  obtain ⟨h1, h2, h3, h4, h5, h6⟩ := h
  refine hF _ ⟨fo.mono (fun q z => Or.inl z), fun j hj => by rw [e, if_neg (by unfold dyn at hj; omega)], fun j _ => fo.rd (oO_ne (by omega)) j⟩ ⟨?_, MTk_cg h2 (fun j a b => by rw [e, if_neg (by omega)]) rfl, by rw [e, if_neg (by omega)]; exact h3, by rw [e, if_neg (by omega)]; exact h4, sgm_cg _ _ (fun j _ _ => (fo.rd (oO_ne (by omega)) j).symm) h5, by rw [e, if_neg (by omega)]; exact h6⟩ e (fun j => fo.rd (oO_ne (by omega)) j)
  exact ⟨by rw [e, if_neg (by omega)]; exact h1.1, h1.2.1, fun j hj => by rw [fo.rd (oO_ne (by omega))]; exact h1.2.2 j hj⟩
/-- the depth changes -/
theorem MX0_18 {f : Nat → Int} {L x p d d' : Nat} {C : List Int} {σ : Zm} {v : Int} {F : Zm → Zr} {P : Int → Zm → Prop} (h : MX0 f L x p C d σ) (hv : zw v = (d' : Int)) (hF : ∀ σ', XF x σ σ' → MX0 f L x p C d' σ' → (∀ j, j ≠ 18 → zrd σ' 273 j = zrd σ 273 j) → (∀ j, zrd σ' 278 j = zrd σ 278 j) → zwp (F σ') P) : zwp (zlet (zst σ 273 18 v) F) P := by
  have e : ∀ j, zrd (zst σ 273 18 v) 273 j = if j = 18 then zw v else zrd σ 273 j := by
    intro j
    rw [zrd_st]
    by_cases c : j = 18
    · rw [if_pos ⟨rfl, c⟩, if_pos c]
    · rw [if_neg (fun z => c z.2), if_neg c]
  have fo : zfo (oO 273) σ (zst σ 273 18 v) := zfo.st1 zfo.rf
  obtain ⟨h1, h2, h3, h4, h5, h6⟩ := h
  refine hF _ ⟨fo.mono (fun q z => Or.inl z), fun j hj => by rw [e, if_neg (by unfold dyn at hj; omega)], fun j _ => fo.rd (oO_ne (by omega)) j⟩ ⟨?_, MTk_cg h2 (fun j a b => by rw [e, if_neg (by omega)]) rfl, by rw [e, if_neg (by omega)]; exact h3, by rw [e, if_neg (by omega)]; exact h4, sgm_cg _ _ (fun j _ _ => (fo.rd (oO_ne (by omega)) j).symm) h5, by rw [e, if_pos rfl, hv]⟩ (fun j hj => by rw [e, if_neg hj]) (fun j => fo.rd (oO_ne (by omega)) j)
  exact ⟨by rw [e, if_neg (by omega)]; exact h1.1, h1.2.1, fun j hj => by rw [fo.rd (oO_ne (by omega))]; exact h1.2.2 j hj⟩
theorem M_emit {f : Nat → Int} {L x p d : Nat} {C : List Int} {σ : Zm} {c a b : Int} (hx : x < 6) (h : MX0 f L x p C d σ) (hl : C.length < 300) (ha : a = eno c) (hb : c < 2000 → b = eno2 c) (za : zw a = a) (zb' : zw b = b) : ∃ σ', fM_emit σ a b = some (0, σ') ∧ XF x σ σ' ∧ MX0 f L x p (C ++ [c]) d σ' ∧ (∀ j, j ≠ 14 → zrd σ' 273 j = zrd σ 273 j) ∧ (∀ j, zrd σ' 278 j = zrd σ 278 j) := by
  have hz : zwp (fM_emit σ a b) (fun r σ' => r = 0 ∧ XF x σ σ' ∧ MX0 f L x p (C ++ [c]) d σ' ∧ (∀ j, j ≠ 14 → zrd σ' 273 j = zrd σ 273 j) ∧ (∀ j, zrd σ' 278 j = zrd σ 278 j)) := by
    obtain ⟨h1, h2, h3, h4, h5, h6⟩ := h
    unfold fM_emit
    rw [zwp_let, zwp_let, h3, h4, show zw (((900 * x : Nat) : Int) + 60 + 2 * (C.length : Int)) = ((900 * x + 60 + 2 * C.length : Nat) : Int) by rw [zwj (by omega) (by omega)]; omega, zckj (by omega) (by omega), Int.toNat_natCast]
    refine zwp_st (fun σ1 f1 e1 => ?_)
    rw [zwp_let, zwp_let, f1.rd (oO_ne (by omega)), f1.rd (oO_ne (by omega)), h3, h4, show zw (((900 * x : Nat) : Int) + 60 + 2 * (C.length : Int) + 1) = ((900 * x + 60 + 2 * C.length + 1 : Nat) : Int) by rw [zwj (by omega) (by omega)]; omega, zckj (by omega) (by omega), Int.toNat_natCast]
    refine zwp_st (fun σ2 f2 e2 => ?_)
    rw [zwp_let, f2.rd (oO_ne (by omega)), f1.rd (oO_ne (by omega)), h4]
    have e : ∀ j, zrd (zst σ2 273 14 ((C.length : Int) + 1)) 273 j = if j = 14 then zw ((C.length : Int) + 1) else zrd σ 273 j := by
      intro j
      rw [zrd_st]
      by_cases c : j = 14
      · rw [if_pos ⟨rfl, c⟩, if_pos c]
      · rw [if_neg (fun z => c z.2), if_neg c, f2.rd (oO_ne (by omega)), f1.rd (oO_ne (by omega))]
    have f3 : zfo (oO 273) σ2 (zst σ2 273 14 ((C.length : Int) + 1)) := zfo.st1 zfo.rf
    rw [zwp_let, zwp_some]
    have f12 : zfo (oO 276) σ σ2 := f1.tr f2
    have ff : zfo mD σ (zst σ2 273 14 ((C.length : Int) + 1)) := (f12.mono (D' := mD) (fun q z => Or.inr (Or.inl z))).tr (f3.mono (fun q z => Or.inl z))
    have h276 : ∀ j, zrd (zst σ2 273 14 ((C.length : Int) + 1)) 276 j = if j = 900 * x + 60 + 2 * C.length + 1 then b else if j = 900 * x + 60 + 2 * C.length then a else zrd σ 276 j := by
      intro j
      rw [f3.rd (oO_ne (by omega)), e2, zb']
      split
      · rfl
      · rw [e1, za]
    refine ⟨rfl, ⟨ff, fun j hj => by rw [e, if_neg (by unfold dyn at hj; omega)], fun j hj => by rw [h276, if_neg (by omega), if_neg (by omega)]⟩, ⟨⟨by rw [e, if_neg (by omega)]; exact h1.1, h1.2.1, fun j hj => by rw [ff.rd (by unfold mD; omega)]; exact h1.2.2 j hj⟩, MTk_cg h2 (fun j a b => by rw [e, if_neg (by omega)]) ?_, by rw [e, if_neg (by omega)]; exact h3, ?_, ?_, by rw [e, if_neg (by omega)]; exact h6⟩, fun j hj => by rw [e, if_neg hj], fun j => by rw [f3.rd (oO_ne (by omega)), f12.rd (oO_ne (by omega))]⟩
    · rw [zrl_st, f12.rl (oO_ne (by omega))]
    · rw [e, if_pos rfl, zwj (by omega) (by omega)]; simp
    · refine sgm_ap C _ c (sgm_cg C _ (fun k h1 h2 => ?_) h5) ?_ (fun hc => ?_)
      · rw [h276, if_neg (by omega), if_neg (by omega)]
      · rw [h276, if_neg (by omega), if_pos rfl, ha]
      · rw [h276, if_pos rfl, hb hc]
  obtain ⟨r, σ', h1, h2, h3⟩ := hz
  exact ⟨σ', by rw [h1, h2], h3⟩
theorem MX0_TR {f : Nat → Int} {L x p p' d : Nat} {C : List Int} {σ σ' : Zm} (h : MX0 f L x p C d σ) (hr : TR σ σ') (ht : MTk f L (ts f L p') σ') : XF x σ σ' ∧ MX0 f L x p' C d σ' := by
  obtain ⟨h1, h2, h3, h4, h5, h6⟩ := h
  refine ⟨⟨hr.1.mono (fun q z => Or.inl z), fun k hk => hr.2 k (fun z => hk (Or.inl z)), fun j _ => hr.1.rd (oO_ne (by omega)) j⟩, mtape_TR h1 hr, ht, by rw [hr.2 12 (by omega)]; exact h3, by rw [hr.2 14 (by omega)]; exact h4, sgm_cg _ _ (fun j _ _ => (hr.1.rd (oO_ne (by omega)) j).symm) h5, by rw [hr.2 18 (by omega)]; exact h6⟩
theorem tk_lt {f : Nat → Int} {L s : Nat} (h : tk f L s ≠ 21) : s < L := by
  by_cases c : s < L
  · exact c
  · exact absurd (tk_e (by omega)) h
theorem M_next {f : Nat → Int} {L x p d : Nat} {C : List Int} {σ : Zm} (h : MX0 f L x p C d σ) (hk : tk f L (ts f L p) ≠ 21) : zwp (fM_nextToken σ) (fun _ σ' => XF x σ σ' ∧ MX0 f L x (tnx f L (ts f L p)) C d σ' ∧ TR σ σ') := by
  have hs := tk_lt hk
  have hn := tnx_s (f := f) hs
  refine zwp_mono (qM_nextToken σ h.1 h.2.1.2.1 hn.2) (fun _ σ1 ⟨r1, m1⟩ => ?_)
  obtain ⟨a, b⟩ := MX0_TR h r1 m1
  exact ⟨a, b, r1⟩
theorem PL_cg {P : List Int} {σ σ' : Zm} (h : PL P σ) (h17 : zrd σ' 273 17 = zrd σ 273 17) (hq : ∀ j, zrd σ' 278 j = zrd σ 278 j) : PL P σ' := ⟨by rw [h17]; exact h.1, sk_cg _ (fun k _ => (hq k).symm) h.2⟩
theorem PL_TR {P : List Int} {σ σ' : Zm} (h : PL P σ) (hr : TR σ σ') : PL P σ' := PL_cg h (hr.2 17 (by omega)) (fun j => hr.1.rd (oO_ne (by omega)) j)
theorem trc_c {a : Int} (h : a = 0 ∨ (10 ≤ a ∧ a ≤ 14)) : (a = 0 ∧ trc a = 40) ∨ (a = 14 ∧ trc a = 2) ∨ ((10 ≤ a ∧ a ≤ 13) ∧ trc a = a - 7) := by
  unfold trc
  split
  · left; omega
  · split <;> omega
def okP (P : List Int) : Prop := ∀ a ∈ P, a = 0 ∨ (10 ≤ a ∧ a ≤ 14)
theorem M_push {f : Nat → Int} {L x p d : Nat} {C P : List Int} {σ : Zm} {a t : Int} (h : MX0 f L x p C d σ) (hP : PL P σ) (hl : P.length < 160) (ht : t = trc a) (ha : a = 0 ∨ (10 ≤ a ∧ a ≤ 14)) : ∃ σ', fM_push σ t = some (0, σ') ∧ XF x σ σ' ∧ MX0 f L x p C d σ' ∧ PL (a :: P) σ' ∧ (∀ j, j ≠ 17 → zrd σ' 273 j = zrd σ 273 j) := by
  have hc := trc_c ha
  have hz : zwp (fM_push σ t) (fun r σ' => r = 0 ∧ XF x σ σ' ∧ MX0 f L x p C d σ' ∧ PL (a :: P) σ' ∧ (∀ j, j ≠ 17 → zrd σ' 273 j = zrd σ 273 j)) := by
    unfold fM_push
    rw [zwp_let, hP.1, zckj (by omega) (by omega), Int.toNat_natCast]
    have f1 : zfo (oO 278) σ (zst σ 278 P.length t) := zfo.st1 zfo.rf
    have h1 : MX0 f L x p C d (zst σ 278 P.length t) := by
      obtain ⟨h1, h2, h3, h4, h5, h6⟩ := h
      exact ⟨⟨by rw [f1.rd (oO_ne (by omega))]; exact h1.1, h1.2.1, fun j hj => by rw [f1.rd (oO_ne (by omega))]; exact h1.2.2 j hj⟩, MTk_cg h2 (fun j a b => f1.rd (oO_ne (by omega)) j) rfl, by rw [f1.rd (oO_ne (by omega))]; exact h3, by rw [f1.rd (oO_ne (by omega))]; exact h4, sgm_cg _ _ (fun j _ _ => (f1.rd (oO_ne (by omega)) j).symm) h5, by rw [f1.rd (oO_ne (by omega))]; exact h6⟩
    have x1 : XF x σ (zst σ 278 P.length t) := ⟨f1.mono (fun q z => Or.inr (Or.inr z)), fun k _ => f1.rd (oO_ne (by omega)) k, fun k _ => f1.rd (oO_ne (by omega)) k⟩
    have p1 : sk (zrd (zst σ 278 P.length t) 278) (trc a :: P.map trc) := by
      have := sk_push (σ := σ) (o := 278) (S := P.map trc) (v := t) (x := trc a) hP.2 (by rw [ht]; exact zwj (by omega) (by omega))
      rw [List.length_map] at this
      exact this
    rw [zwp_let, zwp_let, f1.rd (oO_ne (by omega)), hP.1]
    refine MX0_st h1 (Or.inl rfl) (fun σ2 x2 m2 e2 p2 => ?_)
    rw [zwp_some]
    refine ⟨rfl, x1.tr x2, m2, ⟨?_, ?_⟩, fun j hj => by rw [e2, if_neg hj, f1.rd (oO_ne (by omega))]⟩
    · rw [e2, if_pos rfl, zwj (by omega) (by omega)]; simp
    · exact sk_cg _ (fun k _ => (p2 k).symm) p1
  obtain ⟨r, σ', h1, h2, h3⟩ := hz
  exact ⟨σ', by rw [h1, h2], h3⟩
/-- what lies under the pile -/
def bB (B : List Int) : Prop := ∀ b ∈ B, 1 ≤ b ∧ b ≤ 9
theorem rel_B {l : Int} (hl : 5 ≤ l) : ∀ {B c : List Int}, bB B → rel l B c = (B, c)
  | [], c, _ => rfl
  | b :: B, c, h => by
    have hb := h b (List.mem_cons_self ..)
    have hz := zLvI (a := b) (by omega)
    unfold rel
    rw [if_neg (by omega)]
theorem aro_ap : ∀ (P B : List Int), aro (P ++ B) = aro P + aro B
  | [], B => by rw [List.nil_append]; show _ = 0 + _; omega
  | a :: P, B => by
    have := aro_ap P B
    show (if a = 0 ∨ a = 3 ∨ a = 14 then aro (P ++ B) + 1 else aro (P ++ B)) = (if a = 0 ∨ a = 3 ∨ a = 14 then aro P + 1 else aro P) + aro B
    split <;> omega
theorem par_ap : ∀ (P B : List Int), par (P ++ B) = par P + par B
  | [], B => by rw [List.nil_append]; show _ = 0 + _; omega
  | a :: P, B => by
    have := par_ap P B
    show (if a = 0 then par (P ++ B) + 1 else par (P ++ B)) = (if a = 0 then par P + 1 else par P) + par B
    split <;> omega
theorem par_B : ∀ {B : List Int}, bB B → par B = 0
  | [], _ => rfl
  | b :: B, h => by
    have hb := h b (List.mem_cons_self ..)
    show (if b = 0 then par B + 1 else par B) = 0
    rw [if_neg (by omega)]
    exact par_B (fun y hy => h y (List.mem_cons_of_mem _ hy))
theorem eno_op {a : Int} (h : 1 ≤ a ∧ a ≤ 14) : eno (2000 + a) = if a = 1 then 22 else if a = 2 then 21 else if a = 3 then 20 else if a ≤ 9 then a + 6 else if a = 14 then 2 else a - 7 := by
  have h2 : ∀ n : Nat, n < 15 → 1 ≤ n → eno (2000 + (n : Int)) = if (n : Int) = 1 then 22 else if (n : Int) = 2 then 21 else if (n : Int) = 3 then 20 else if (n : Int) ≤ 9 then (n : Int) + 6 else if (n : Int) = 14 then 2 else (n : Int) - 7 := by decide
  have := h2 a.toNat (by omega) (by omega)
  rw [show ((a.toNat : Nat) : Int) = a by omega] at this
  exact this
theorem PL_pop {f : Nat → Int} {L x p d : Nat} {C P : List Int} {a : Int} {σ : Zm} {F : Zm → Zr} {Q : Int → Zm → Prop} (h : MX0 f L x p C d σ) (hp : PL (a :: P) σ) (hl : P.length < 160) (hF : ∀ σ', XF x σ σ' → MX0 f L x p C d σ' → PL P σ' → (∀ j, j ≠ 17 → zrd σ' 273 j = zrd σ 273 j) → (∀ j, zrd σ' 278 j = zrd σ 278 j) → zwp (F σ') Q) : zwp (zlet (zst σ 273 17 (((P.length + 1 : Nat) : Int) - 1)) F) Q := by
  refine MX0_st h (Or.inl rfl) (fun σ1 x1 m1 e1 p1 => hF σ1 x1 m1 ⟨?_, sk_cg _ (fun k _ => (p1 k).symm) hp.2.2⟩ (fun j hj => by rw [e1, if_neg hj]) p1)
  rw [e1, if_pos rfl, zwj (by omega) (by omega)]; omega
theorem aro_s {a : Int} {P : List Int} (h : a = 0 ∨ a = 14) : aro (a :: P) = aro P + 1 := by
  show (if a = 0 ∨ a = 3 ∨ a = 14 then _ else _) = _
  rw [if_pos (by omega)]
theorem aro_o {a : Int} {P : List Int} (h : 4 ≤ a ∧ a ≤ 13) : aro (a :: P) = aro P := by
  show (if a = 0 ∨ a = 3 ∨ a = 14 then _ else _) = _
  rw [if_neg (by omega)]
/-- minus signs over a whole operand are put down at once -/
theorem pM_whole_5 {f : Nat → Int} {L x p : Nat} (hx : x < 6) {B X : List Int} (hB : bB B) : ∀ (P c : List Int) (m : Nat) (σ : Zm), P.length < m → okP P → P.length ≤ 160 → (X ++ c).length + P.length ≤ 300 → MX0 f L x p (X ++ c) (aro (P ++ B)) σ → aro (P ++ B) ≤ 400 → PL P σ → zwp (fM_whole_5 m σ) (fun _ σ' => ∃ P' c', rel 7 (P ++ B) c = (P' ++ B, c') ∧ MX0 f L x p (X ++ c') (aro (P' ++ B)) σ' ∧ PL P' σ' ∧ XF x σ σ' ∧ zrd σ' 273 19 = zrd σ 273 19 ∧ ∃ q, P = q ++ P' ∧ (P' = [] ∨ ∃ b P2, P' = b :: P2 ∧ b ≠ 14))
  | [], c, m + 1, σ, _, hP, _, hl, h, _, hp => by
    rw [fM_whole_5]
    simp only [zwp_let]
    rw [hp.1, if_pos (by simp), zwp_some]
    exact ⟨[], c, rel_B (by omega) hB, h, hp, XF.rf, rfl, [], rfl, Or.inl rfl⟩
  | a :: P, c, m + 1, σ, hm, hP, h160, hl, h, har, hp => by
    simp only [List.length_cons] at hm hl h160
    have ha := hP a (List.mem_cons_self ..)
    have hc := trc_c ha
    have hz := zLvI (a := a) (by omega)
    have e17 : zrd σ 273 17 = ((P.length + 1 : Nat) : Int) := hp.1
    have e278 : zrd σ 278 P.length = trc a := by
      have := hp.2.1
      rw [List.length_map] at this
      exact this
    rw [fM_whole_5]
    simp only [zwp_let]
    rw [e17, if_neg (by omega), zwp_let, show zw (((P.length + 1 : Nat) : Int) - 1) = (P.length : Int) by rw [zwj (by omega) (by omega)]; omega, zckj (by omega) (by omega), zwp_let, Int.toNat_natCast, e278]
    by_cases c14 : a = 14
    · rw [ifnn (by omega), zwp_let]
      refine PL_pop h hp (by omega) (fun σ1 x1 m1 p1 k1 _ => ?_)
      have ea : aro ((a :: P) ++ B) = aro (P ++ B) + 1 := aro_s (Or.inr c14)
      rw [ea] at m1 h har
      rw [zwp_let, m1.2.2.2.2.2]
      refine MX0_18 (d' := aro (P ++ B)) m1 (by rw [zwj (by omega) (by omega)]; omega) (fun σ2 x2 m2 k2 q2 => ?_)
      have p2 : PL P σ2 := PL_cg p1 (k2 17 (by omega)) q2
      rw [List.length_append] at hl
      obtain ⟨σ3, g1, g2, g3, g4, g5⟩ := M_emit (c := 2014) (a := 2) (b := 0) hx m2 (by rw [List.length_append]; omega) rfl (fun z => by omega) rfl rfl
      rw [zbv_eq g1]
      have p3 : PL P σ3 := PL_cg p2 (g4 17 (by omega)) g5
      rw [List.append_assoc] at g3
      refine zwp_mono (pM_whole_5 hx hB P (c ++ [2014]) m σ3 (by omega) (fun y hy => hP y (List.mem_cons_of_mem _ hy)) (by omega) (by simp only [List.length_append, List.length_cons, List.length_nil]; omega) g3 (by omega) p3) (fun _ σ4 ⟨P', c', q1, q2, q3, q4, q5, q, q6, q7⟩ => ⟨P', c', ?_, q2, q3, ((x1.tr x2).tr g2).tr q4, ?_, a :: q, by rw [q6]; rfl, q7⟩)
      · show rel 7 (a :: (P ++ B)) c = _
        have e : rel 7 (a :: (P ++ B)) c = if 7 ≤ zLv a.toNat then rel 7 (P ++ B) (c ++ [2000 + a]) else (a :: (P ++ B), c) := rfl
        rw [e, if_pos (by omega), show 2000 + a = 2014 by omega]
        exact q1
      · rw [q5, g4 19 (by omega), k2 19 (by omega), k1 19 (by omega)]
    · rw [if_pos (by omega), zwp_some]
      refine ⟨a :: P, c, ?_, h, hp, XF.rf, rfl, [], rfl, Or.inr ⟨a, P, rfl, c14⟩⟩
      have e : rel 7 (a :: (P ++ B)) c = if 7 ≤ zLv a.toNat then rel 7 (P ++ B) (c ++ [2000 + a]) else (a :: (P ++ B), c) := rfl
      show rel 7 (a :: (P ++ B)) c = _
      rw [e, if_neg (by omega)]
      rfl
theorem M_whole {f : Nat → Int} {L x p : Nat} (hx : x < 6) {B X P c : List Int} (hB : bB B) (σ : Zm) (hP : okP P) (h160 : P.length ≤ 160) (hl : (X ++ c).length + P.length ≤ 300) (h : MX0 f L x p (X ++ c) (aro (P ++ B)) σ) (har : aro (P ++ B) ≤ 400) (hp : PL P σ) : zwp (fM_whole σ) (fun _ σ' => ∃ P' c', rel 7 (P ++ B) c = (P' ++ B, c') ∧ MX0 f L x p (X ++ c') (aro (P' ++ B)) σ' ∧ PL P' σ' ∧ XF x σ σ' ∧ zrd σ' 273 19 = 1 ∧ ∃ q, P = q ++ P' ∧ (P' = [] ∨ ∃ b P2, P' = b :: P2 ∧ b ≠ 14)) := by
  unfold fM_whole
  refine MX0_st h (Or.inr rfl) (fun σ1 x1 m1 e1 p1 => ?_)
  refine zwp_mono (pM_whole_5 hx hB P c 5000 σ1 (by omega) hP h160 hl m1 har (PL_cg hp (by rw [e1, if_neg (by decide)]) p1)) (fun _ σ2 ⟨P', c', q1, q2, q3, q4, q5, q6⟩ => ⟨P', c', q1, q2, q3, x1.tr q4, ?_, q6⟩)
  rw [q5, e1, if_pos rfl]; rfl
/-- the shape of the pile -/
def hp0 : List Int → Prop
  | [] => True
  | b :: _ => b = 0
def hp1 : List Int → Prop
  | [] => True
  | b :: _ => b = 0 ∨ b = 10 ∨ b = 11
def pw : List Int → Prop
  | [] => True
  | a :: W => pw W ∧ ((a = 0 ∨ a = 14) ∨ ((a = 10 ∨ a = 11) ∧ hp0 W) ∨ ((a = 12 ∨ a = 13) ∧ hp1 W))
def nng : List Int → Prop
  | [] => True
  | b :: _ => b ≠ 14
theorem pw_ok : ∀ {P : List Int}, pw P → okP P
  | [], _ => fun a h => absurd h (by simp)
  | a :: P, h => by
    intro y hy
    rcases List.mem_cons.1 hy with rfl | hy
    · have := h.2; omega
    · exact pw_ok h.1 y hy
theorem pw_len : ∀ {P : List Int}, pw P → P.length ≤ 3 * aro P + 2 ∧ (hp1 P → P.length ≤ 3 * aro P + 1) ∧ (hp0 P → P.length ≤ 3 * aro P)
  | [], _ => ⟨by simp, fun _ => by simp, fun _ => by simp⟩
  | a :: P, h => by
    have ih := pw_len h.1
    simp only [List.length_cons]
    rcases h.2 with h2 | ⟨h2, h3⟩ | ⟨h2, h3⟩
    · rw [aro_s h2]
      refine ⟨by omega, fun _ => by omega, fun _ => by omega⟩
    · rw [aro_o (by omega)]
      have := ih.2.2 h3
      refine ⟨by omega, fun _ => by omega, fun z => ?_⟩
      have : a = 0 := z
      omega
    · rw [aro_o (by omega)]
      have := ih.2.1 h3
      refine ⟨by omega, fun z => ?_, fun z => ?_⟩
      · have : a = 0 ∨ a = 10 ∨ a = 11 := z
        omega
      · have : a = 0 := z
        omega
theorem pw_drop : ∀ {q P : List Int}, pw (q ++ P) → pw P
  | [], P, h => h
  | a :: q, P, h => pw_drop (q := q) h.1
/-- sums over the waiting ones are put down -/
theorem pM_settle_0 {f : Nat → Int} {L x p d : Nat} (hx : x < 6) {B X : List Int} (hB : bB B) (x1 l : Int) (hxl : (x1 = 3 ∧ l = 5) ∨ (x1 = 5 ∧ l = 6)) : ∀ (P c : List Int) (m : Nat) (σ : Zm), P.length < m → pw P → nng P → P.length ≤ 159 → (X ++ c).length + P.length ≤ 300 → MX0 f L x p (X ++ c) d σ → PL P σ → zwp (fM_settle_0 m x1 σ) (fun _ σ' => ∃ P' c', rel l (P ++ B) c = (P' ++ B, c') ∧ MX0 f L x p (X ++ c') d σ' ∧ PL P' σ' ∧ XF x σ σ' ∧ zrd σ' 273 19 = zrd σ 273 19 ∧ aro P' = aro P ∧ par P' = par P ∧ pw P' ∧ (if l = 5 then hp0 P' else hp1 P') ∧ (par P = 0 → l = 5 → P' = []) ∧ (par P ≠ 0 → l = 5 → rel 1 (P ++ B) c = (P' ++ B, c')))
  | [], c, m + 1, σ, _, hP, hn, _, hl, h, hp => by
    rw [fM_settle_0]
    simp only [zwp_let]
    rw [hp.1, if_pos (by simp), zwp_some]
    exact ⟨[], c, rel_B (by omega) hB, h, hp, XF.rf, rfl, rfl, rfl, trivial, by split <;> trivial, fun _ _ => rfl, fun z => absurd rfl z⟩
  | a :: P, c, m + 1, σ, hm, hP, hn, h160, hl, h, hp => by
    simp only [List.length_cons] at hm hl h160
    have ha := pw_ok hP a (List.mem_cons_self ..)
    have hc := trc_c ha
    have hz := zLvI (a := a) (by omega)
    have hn14 : a ≠ 14 := hn
    have e17 : zrd σ 273 17 = ((P.length + 1 : Nat) : Int) := hp.1
    have e278 : zrd σ 278 P.length = trc a := by
      have := hp.2.1
      rw [List.length_map] at this
      exact this
    have er : rel l (a :: (P ++ B)) c = if l ≤ zLv a.toNat then rel l (P ++ B) (c ++ [2000 + a]) else (a :: (P ++ B), c) := rfl
    have er1 : rel 1 (a :: (P ++ B)) c = if 1 ≤ zLv a.toNat then rel 1 (P ++ B) (c ++ [2000 + a]) else (a :: (P ++ B), c) := rfl
    have e17' : zw (((P.length + 1 : Nat) : Int) - 1) = (P.length : Int) := by rw [zwj (by omega) (by omega)]; omega
    rw [fM_settle_0]
    simp only [zwp_let]
    rw [e17, if_neg (by omega), zwp_let, e17', zckj (by omega) (by omega), zwp_let, Int.toNat_natCast, e278]
    by_cases a0 : a = 0
    · rw [if_pos (by omega), zwp_some]
      refine ⟨a :: P, c, ?_, h, hp, XF.rf, rfl, rfl, rfl, hP, ?_, fun z => ?_, fun _ hl5 => ?_⟩
      · show rel l (a :: (P ++ B)) c = _
        rw [er, if_neg (by omega)]; rfl
      · split
        · exact a0
        · exact Or.inl a0
      · have : par (a :: P) = par P + 1 := by show (if a = 0 then _ else _) = _; rw [if_pos a0]
        omega
      · show rel 1 (a :: (P ++ B)) c = _
        rw [er1, if_neg (by omega)]; rfl
    · have epa : par (a :: P) = par P := by show (if a = 0 then _ else _) = _; rw [if_neg a0]
      have eaa : aro (a :: P) = aro P := aro_o (by omega)
      rw [if_neg (by omega), zwp_let, e17', zckj (by omega) (by omega), zwp_let, Int.toNat_natCast, e278]
      have hpw2 := hP.2
      have hnP : (l ≤ zLv a.toNat) → nng P := by
        intro _
        match P, hpw2 with
        | [], _ => exact trivial
        | b :: P, hpw2 =>
          show b ≠ 14
          rcases hpw2 with z | ⟨_, z⟩ | ⟨_, z⟩
          · omega
          · have : b = 0 := z
            omega
          · have : b = 0 ∨ b = 10 ∨ b = 11 := z
            omega
      by_cases cl : l ≤ zLv a.toNat
      · rw [if_neg (by omega), zwp_let]
        refine PL_pop h hp (by omega) (fun σ1 y1 m1 p1 k1 q1 => ?_)
        rw [zwp_let, p1.1, zckj (by omega) (by omega), zwp_let, Int.toNat_natCast, q1, e278]
        rw [List.length_append] at hl
        obtain ⟨σ2, g1, g2, g3, g4, g5⟩ := M_emit (c := 2000 + a) (a := trc a) (b := 0) hx m1 (by rw [List.length_append]; omega) (by rw [eno_op (by omega), if_neg (by omega), if_neg (by omega), if_neg (by omega), if_neg (by omega), if_neg (by omega)]; omega) (fun z => by omega) (zwj (by omega) (by omega)) rfl
        rw [zbv_eq g1]
        have p2 : PL P σ2 := PL_cg p1 (g4 17 (by omega)) g5
        rw [List.append_assoc] at g3
        refine zwp_mono (pM_settle_0 hx hB x1 l hxl P (c ++ [2000 + a]) m σ2 (by omega) hP.1 (hnP cl) (by omega) (by simp only [List.length_append, List.length_cons, List.length_nil]; omega) g3 p2) (fun _ σ3 ⟨P', c', w1, w2, w3, w4, w5, w6, w7, w8, w9, w10, w11⟩ => ⟨P', c', ?_, w2, w3, (y1.tr g2).tr w4, ?_, by rw [w6, eaa], by rw [w7, epa], w8, w9, fun z => w10 (by rw [← epa]; exact z), fun z z5 => ?_⟩)
        · show rel l (a :: (P ++ B)) c = _
          rw [er, if_pos cl]
          exact w1
        · rw [w5, g4 19 (by omega), k1 19 (by omega)]
        · show rel 1 (a :: (P ++ B)) c = _
          rw [er1, if_pos (by omega)]
          exact w11 (by rw [← epa]; exact z) z5
      · have hl6 : l = 6 := by omega
        rw [if_pos (by omega), zwp_some]
        refine ⟨a :: P, c, ?_, h, hp, XF.rf, rfl, rfl, rfl, hP, ?_, fun _ z => by omega, fun _ z => by omega⟩
        · show rel l (a :: (P ++ B)) c = _
          rw [er, if_neg cl]; rfl
        · rw [if_neg (by omega)]
          show a = 0 ∨ a = 10 ∨ a = 11
          omega
theorem M_settle {f : Nat → Int} {L x p d : Nat} (hx : x < 6) {B X P c : List Int} (hB : bB B) (x1 l : Int) (hxl : (x1 = 3 ∧ l = 5) ∨ (x1 = 5 ∧ l = 6)) (σ : Zm) (hP : pw P) (hn : nng P) (h160 : P.length ≤ 159) (hl : (X ++ c).length + P.length ≤ 300) (h : MX0 f L x p (X ++ c) d σ) (hp : PL P σ) : zwp (fM_settle σ x1) (fun _ σ' => ∃ P' c', rel l (P ++ B) c = (P' ++ B, c') ∧ MX0 f L x p (X ++ c') d σ' ∧ PL P' σ' ∧ XF x σ σ' ∧ zrd σ' 273 19 = zrd σ 273 19 ∧ aro P' = aro P ∧ par P' = par P ∧ pw P' ∧ (if l = 5 then hp0 P' else hp1 P') ∧ (par P = 0 → l = 5 → P' = []) ∧ (par P ≠ 0 → l = 5 → rel 1 (P ++ B) c = (P' ++ B, c'))) := pM_settle_0 hx hB x1 l hxl P c 5000 σ (by omega) hP hn h160 hl h hp
/-- is a parenthesis open -/
theorem sk_at {f : Nat → Int} : ∀ (S : List Int) (k : Nat), k < S.length → sk f S → ∃ x, S[S.length - 1 - k]? = some x ∧ f k = x
  | [], k, h, _ => absurd h (by simp)
  | a :: S, k, h, hs => by
    simp only [List.length_cons] at h ⊢
    by_cases c : k = S.length
    · exact ⟨a, by rw [c, show S.length + 1 - 1 - S.length = 0 by omega]; rfl, by rw [c]; exact hs.1⟩
    · obtain ⟨x, h1, h2⟩ := sk_at S k (by omega) hs.2
      exact ⟨x, by rw [show S.length + 1 - 1 - k = (S.length - 1 - k) + 1 by omega]; exact h1, h2⟩
theorem par_mem : ∀ (P : List Int), par P ≠ 0 ↔ (0 : Int) ∈ P
  | [] => ⟨fun h => absurd rfl h, fun h => absurd h (by simp)⟩
  | a :: P => by
    have ih := par_mem P
    have e : par (a :: P) = if a = 0 then par P + 1 else par P := rfl
    rw [e, List.mem_cons]
    by_cases c : a = 0
    · rw [if_pos c]
      exact ⟨fun _ => Or.inl c.symm, fun _ => by omega⟩
    · rw [if_neg c, ih]
      exact ⟨fun h => Or.inr h, fun h => by
        rcases h with h | h
        · exact absurd h.symm c
        · exact h⟩
def hasp (g : Nat → Int) : Nat → Nat → Bool
  | 0, _ => false
  | d + 1, k => if g k = 40 then true else hasp g d (k + 1)
theorem hasp_iff (g : Nat → Int) : ∀ (d k : Nat), hasp g d k = true ↔ ∃ j, k ≤ j ∧ j < k + d ∧ g j = 40
  | 0, k => ⟨fun h => absurd h (by simp [hasp]), fun ⟨j, h1, h2, _⟩ => by omega⟩
  | d + 1, k => by
    have ih := hasp_iff g d (k + 1)
    unfold hasp
    by_cases c : g k = 40
    · rw [if_pos c]
      exact ⟨fun _ => ⟨k, Nat.le_refl _, by omega, c⟩, fun _ => rfl⟩
    · rw [if_neg c, ih]
      constructor
      · rintro ⟨j, h1, h2, h3⟩
        exact ⟨j, by omega, by omega, h3⟩
      · rintro ⟨j, h1, h2, h3⟩
        refine ⟨j, ?_, by omega, h3⟩
        by_cases z : j = k
        · rw [z] at h3; exact absurd h3 c
        · omega
theorem pM_hasParen_2 {P : List Int} {σ : Zm} (h160 : P.length ≤ 160) (hp : PL P σ) : ∀ (d m k : Nat), d < m → k + d = P.length → fM_hasParen_2 m (k : Int) σ = some (if hasp (zrd σ 278) d k = true then 1 else 0, σ)
  | 0, m + 1, k, _, hk => by
    rw [fM_hasParen_2]
    dsimp only [zlet]
    rw [hp.1, if_pos (by omega)]
    rfl
  | d + 1, m + 1, k, hm, hk => by
    rw [fM_hasParen_2]
    dsimp only [zlet]
    rw [hp.1, if_neg (by omega), zckj (by omega) (by omega), Int.toNat_natCast]
    have e : hasp (zrd σ 278) (d + 1) k = if zrd σ 278 k = 40 then true else hasp (zrd σ 278) d (k + 1) := rfl
    rw [e]
    by_cases c : zrd σ 278 k = 40
    · rw [ifnn c, if_pos c]; rfl
    · rw [if_pos c, if_neg c, show zw ((k : Int) + 1) = ((k + 1 : Nat) : Int) by rw [zwj (by omega) (by omega)]; omega, pM_hasParen_2 h160 hp d m (k + 1) (by omega) (by omega)]
theorem M_hasParen {P : List Int} {σ : Zm} (hP : okP P) (h160 : P.length ≤ 160) (hp : PL P σ) : fM_hasParen σ = some (if par P ≠ 0 then 1 else 0, σ) := by
  unfold fM_hasParen
  rw [show (0 : Int) = ((0 : Nat) : Int) from rfl, pM_hasParen_2 h160 hp P.length 5000 0 (by omega) (by omega)]
  have hiff0 := hasp_iff (zrd σ 278) P.length 0
  rw [Nat.zero_add] at hiff0
  have hiff : (∃ j, 0 ≤ j ∧ j < P.length ∧ zrd σ 278 j = 40) ↔ par P ≠ 0 := by
    rw [par_mem]
    constructor
    · rintro ⟨j, _, h2, h3⟩
      obtain ⟨y, y1, y2⟩ := sk_at (P.map trc) j (by rw [List.length_map]; exact h2) hp.2
      have hm := List.mem_of_getElem? y1
      obtain ⟨z, z1, z2⟩ := List.mem_map.1 hm
      have := trc_c (hP z z1)
      have : z = 0 := by omega
      rw [← this]; exact z1
    · intro h0
      obtain ⟨i, hi, e⟩ := List.getElem_of_mem h0
      refine ⟨P.length - 1 - i, by omega, by omega, ?_⟩
      obtain ⟨y, y1, y2⟩ := sk_at (P.map trc) (P.length - 1 - i) (by rw [List.length_map]; omega) hp.2
      rw [y2]
      rw [List.length_map, show P.length - 1 - (P.length - 1 - i) = i by omega, List.getElem?_map, List.getElem?_eq_getElem hi, e] at y1
      have : trc 0 = y := by
        simpa using y1
      rw [← this]; rfl
  by_cases c : par P ≠ 0
  · rw [if_pos c, if_pos (hiff0.2 (hiff.2 c))]
  · rw [if_neg c, if_neg (fun z => c (hiff.1 (hiff0.1 z)))]; rfl
theorem M_isBarred {so v : Int} {σ : Zm} (h20 : zrd σ 273 20 = so + 1) (hso : 0 ≤ so ∧ so ≤ 3) (hv : 0 ≤ v ∧ v ≤ 20) : fM_isBarred σ ((nm v.toNat : Nat) : Int) = some (if nks so v = true then 0 else 1, σ) := by
  unfold fM_isBarred nks
  simp only [zlet]
  rw [h20]
  have hn : (nm v.toNat : Int) = if v ≤ 7 then v else if v = 8 then 12 else if v ≤ 12 then v - 1 else v := by
    unfold nm
    by_cases c1 : v ≤ 7
    · rw [if_pos c1, if_pos (by omega)]; omega
    · rw [if_neg c1, if_neg (by omega)]
      by_cases c2 : v = 8
      · rw [if_pos c2, if_pos (by omega)]; rfl
      · rw [if_neg c2, if_neg (by omega)]
        by_cases c3 : v ≤ 12
        · rw [if_pos c3, if_pos (by omega)]; omega
        · rw [if_neg c3, if_neg (by omega)]; omega
  have hn2 : (0 ≤ (nm v.toNat : Int) ∧ (nm v.toNat : Int) ≤ 7 ↔ v ≤ 7) ∧ ((nm v.toNat : Int) = 12 ↔ v = 8) ∧ (8 ≤ (nm v.toNat : Int) ∧ (nm v.toNat : Int) ≤ 12 ↔ 8 ≤ v ∧ v ≤ 12) ∧ (13 ≤ (nm v.toNat : Int) ↔ 13 ≤ v) := by
    rw [hn]
    split
    · omega
    · split
      · omega
      · split <;> omega
  obtain ⟨i1, i2, i3, i4⟩ := hn2
  generalize (nm v.toNat : Int) = w at *
  by_cases s0 : so = 0
  · rw [ifnn (by omega), if_pos s0]
    by_cases c1 : v ≤ 7
    · rw [mIn_t (i1.2 c1), if_pos (by decide), if_pos (by simp; omega)]
    · rw [mIn_f (fun z => c1 (i1.1 z)), if_neg (by decide)]
      by_cases c2 : v = 8
      · rw [if_pos (i2.2 c2), if_pos (by simp; omega)]
      · rw [if_neg (fun z => c2 (i2.1 z)), if_neg (by simp; omega)]
  · rw [if_pos (by omega), if_neg s0]
    by_cases s1 : so = 1
    · rw [ifnn (by omega), if_pos s1]
      by_cases c1 : 8 ≤ v ∧ v ≤ 12
      · rw [mIn_t (i3.2 c1), if_pos (by decide), if_pos (by simp; omega)]
      · rw [mIn_f (fun z => c1 (i3.1 z)), if_neg (by decide), if_neg (by simp; omega)]
    · rw [if_pos (by omega), if_neg s1]
      by_cases c1 : 13 ≤ v
      · rw [if_pos (i4.2 c1), if_pos (by simp; omega)]
      · rw [if_neg (fun z => c1 (i4.1 z)), if_neg (by simp; omega)]

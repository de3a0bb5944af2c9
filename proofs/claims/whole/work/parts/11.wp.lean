/-! MY OWN: what a generated function comes to -/
def zwp (e : Zr) (P : Int → Zm → Prop) : Prop := ∃ (r : Int) (σ' : Zm), e = some (r, σ') ∧ P r σ'
theorem zwp_some {a : Int} {σ : Zm} {P : Int → Zm → Prop} : zwp (some (a, σ)) P ↔ P a σ := by
  constructor
  · rintro ⟨r, s, h, hp⟩
    cases h
    exact hp
  · intro h
    exact ⟨a, σ, rfl, h⟩
theorem zwp_none {P : Int → Zm → Prop} : ¬ zwp none P := by
  rintro ⟨r, s, h, hp⟩
  cases h
theorem zwp_let {α : Type} {v : α} {F : α → Zr} {P : Int → Zm → Prop} : zwp (zlet v F) P ↔ zwp (F v) P := Iff.rfl
theorem zwp_ck {i : Int} {n : Nat} {e : Zr} {P : Int → Zm → Prop} : zwp (zck i n e) P ↔ (0 ≤ i ∧ i < (n : Int)) ∧ zwp e P := by
  unfold zck
  by_cases h : 0 ≤ i ∧ i < (n : Int)
  · rw [if_pos h]
    exact ⟨fun q => ⟨h, q⟩, fun q => q.2⟩
  · rw [if_neg h]
    exact ⟨fun q => absurd q zwp_none, fun q => absurd q.1 h⟩
theorem zwp_dv {b : Int} {e : Zr} {P : Int → Zm → Prop} : zwp (zdv b e) P ↔ b ≠ 0 ∧ zwp e P := by
  unfold zdv
  by_cases h : b = 0
  · rw [if_pos h]
    exact ⟨fun q => absurd q zwp_none, fun q => absurd h q.1⟩
  · rw [if_neg h]
    exact ⟨fun q => ⟨h, q⟩, fun q => q.2⟩
theorem zwp_if {c : Prop} {dc : Decidable c} {a b : Zr} {P : Int → Zm → Prop} : zwp (if c then a else b) P ↔ (c → zwp a P) ∧ (¬ c → zwp b P) := by
  by_cases h : c
  · rw [if_pos h]
    exact ⟨fun q => ⟨fun _ => q, fun z => absurd h z⟩, fun q => q.1 h⟩
  · rw [if_neg h]
    exact ⟨fun q => ⟨fun z => absurd z h, fun _ => q⟩, fun q => q.2 h⟩
theorem zwp_bi {e : Zr} {F : Int → Zm → Zr} {P : Int → Zm → Prop} : zwp (zbi e F) P ↔ zwp e (fun v σ' => zwp (F (zw v) σ') P) := by
  unfold zbi
  cases e with
  | none => exact ⟨fun q => absurd q zwp_none, fun q => absurd q zwp_none⟩
  | some r => exact ⟨fun q => ⟨r.1, r.2, rfl, q⟩, fun ⟨a, b, h, q⟩ => by cases h; exact q⟩
theorem zwp_bl {e : Zr} {F : Int → Zm → Zr} {P : Int → Zm → Prop} : zwp (zbl e F) P ↔ zwp e (fun v σ' => zwp (F (zx v) σ') P) := by
  unfold zbl
  cases e with
  | none => exact ⟨fun q => absurd q zwp_none, fun q => absurd q zwp_none⟩
  | some r => exact ⟨fun q => ⟨r.1, r.2, rfl, q⟩, fun ⟨a, b, h, q⟩ => by cases h; exact q⟩
theorem zwp_bv {e : Zr} {F : Zm → Zr} {P : Int → Zm → Prop} : zwp (zbv e F) P ↔ zwp e (fun _ σ' => zwp (F σ') P) := by
  unfold zbv
  cases e with
  | none => exact ⟨fun q => absurd q zwp_none, fun q => absurd q zwp_none⟩
  | some r => exact ⟨fun q => ⟨r.1, r.2, rfl, q⟩, fun ⟨a, b, h, q⟩ => by cases h; exact q⟩
theorem zwp_mono {e : Zr} {P Q : Int → Zm → Prop} (h : zwp e P) (k : ∀ r σ', P r σ' → Q r σ') : zwp e Q := by
  obtain ⟨r, s, h1, h2⟩ := h
  exact ⟨r, s, h1, k r s h2⟩
theorem zbi_some {a : Int} {σ : Zm} {F : Int → Zm → Zr} : zbi (some (a, σ)) F = F (zw a) σ := rfl
theorem zbl_some {a : Int} {σ : Zm} {F : Int → Zm → Zr} : zbl (some (a, σ)) F = F (zx a) σ := rfl
theorem zbv_some {a : Int} {σ : Zm} {F : Zm → Zr} : zbv (some (a, σ)) F = F σ := rfl
theorem zw_ite {c : Prop} {dc : Decidable c} {a b : Int} : zw (if c then a else b) = if c then zw a else zw b := by split <;> rfl
theorem zb_0 : zb 0 = 0 := by decide
theorem zb_1 : zb 1 = 1 := by decide
/-- what isn't said to change stays -/
def zfr (S : Nat → Nat → Prop) (σ σ' : Zm) : Prop := (∀ o k, ¬ S o k → zrd σ' o k = zrd σ o k) ∧ (∀ o k, ¬ S o k → zrl σ' o k = zrl σ o k)
theorem zfr.rf {S : Nat → Nat → Prop} {σ : Zm} : zfr S σ σ := ⟨fun _ _ _ => rfl, fun _ _ _ => rfl⟩
theorem zfr.tr {S : Nat → Nat → Prop} {σ σ1 σ2 : Zm} (h : zfr S σ σ1) (h2 : zfr S σ1 σ2) : zfr S σ σ2 := ⟨fun o k q => (h2.1 o k q).trans (h.1 o k q), fun o k q => (h2.2 o k q).trans (h.2 o k q)⟩
theorem zfr.mono {S S' : Nat → Nat → Prop} {σ σ1 : Zm} (h : zfr S σ σ1) (hs : ∀ o k, S o k → S' o k) : zfr S' σ σ1 := ⟨fun o k q => h.1 o k (fun z => q (hs o k z)), fun o k q => h.2 o k (fun z => q (hs o k z))⟩
theorem zfr.st {S : Nat → Nat → Prop} {σ : Zm} {o k : Nat} {v : Int} (h : S o k) : zfr S σ (zst σ o k v) := by
  refine ⟨fun p j q => ?_, fun p j q => rfl⟩
  rw [zrd_st, if_neg (fun z => q (by rw [z.1, z.2]; exact h))]
theorem zfr.sl {S : Nat → Nat → Prop} {σ : Zm} {o k : Nat} {v : Int} (h : S o k) : zfr S σ (zsl σ o k v) := by
  refine ⟨fun p j q => rfl, fun p j q => ?_⟩
  rw [zrl_sl, if_neg (fun z => q (by rw [z.1, z.2]; exact h))]
theorem pLN_le (o : Nat) : zLN o ≤ 5400 := by
  by_cases h : o < 294
  · have h2 : ∀ o, o < 294 → zLN o ≤ 5400 := by decide +kernel
    exact h2 o h
  · have h3 : zlnL.length ≤ 294 := by decide +kernel
    unfold zLN
    rw [List.getD_eq_getElem?_getD, List.getElem?_eq_none (by omega)]
    exact Nat.zero_le _
/-- rows of other objects stay -/
def zfo (D : Nat → Prop) (σ σ' : Zm) : Prop := ∀ o, ¬ D o → σ'.1 o = σ.1 o ∧ σ'.2 o = σ.2 o
theorem zfo.rf {D : Nat → Prop} {σ : Zm} : zfo D σ σ := fun _ _ => ⟨rfl, rfl⟩
theorem zfo.tr {D : Nat → Prop} {σ σ1 σ2 : Zm} (h : zfo D σ σ1) (h2 : zfo D σ1 σ2) : zfo D σ σ2 := fun o q => ⟨(h2 o q).1.trans (h o q).1, (h2 o q).2.trans (h o q).2⟩
theorem zfo.mono {D D' : Nat → Prop} {σ σ1 : Zm} (h : zfo D σ σ1) (hs : ∀ o, D o → D' o) : zfo D' σ σ1 := fun o q => h o (fun z => q (hs o z))
theorem zfo.rd {D : Nat → Prop} {σ σ1 : Zm} (h : zfo D σ σ1) {o : Nat} (ho : ¬ D o) (k : Nat) : zrd σ1 o k = zrd σ o k := by unfold zrd; rw [(h o ho).1]
theorem zfo.rl {D : Nat → Prop} {σ σ1 : Zm} (h : zfo D σ σ1) {o : Nat} (ho : ¬ D o) (k : Nat) : zrl σ1 o k = zrl σ o k := by unfold zrl; rw [(h o ho).2]
theorem zfo.st {D : Nat → Prop} {σ σ1 : Zm} {o k : Nat} {v : Int} (h : zfo D σ σ1) (ho : D o) : zfo D σ (zst σ1 o k v) := by
  refine h.tr (fun p q => ⟨?_, rfl⟩)
  funext j
  show (if p = o ∧ j = k then zI v else σ1.1 p j) = σ1.1 p j
  rw [if_neg (fun z => q (by rw [z.1]; exact ho))]
theorem zfo.sl {D : Nat → Prop} {σ σ1 : Zm} {o k : Nat} {v : Int} (h : zfo D σ σ1) (ho : D o) : zfo D σ (zsl σ1 o k v) := by
  refine h.tr (fun p q => ⟨rfl, ?_⟩)
  funext j
  show (if p = o ∧ j = k then zJ v else σ1.2 p j) = σ1.2 p j
  rw [if_neg (fun z => q (by rw [z.1]; exact ho))]
theorem zfo.cp {D : Nat → Prop} {σ σ1 : Zm} {a sp b dp n : Nat} (h : zfo D σ σ1) (ho : D b) : zfo D σ (zcp σ1 a sp b dp n) := by
  refine h.tr (fun p q => ⟨?_, rfl⟩)
  funext j
  show (if p = b ∧ dp ≤ j ∧ j < dp + n then σ1.1 a (sp + (j - dp)) else σ1.1 p j) = σ1.1 p j
  rw [if_neg (fun z => q (by rw [z.1]; exact ho))]
theorem zwj {a : Int} (h : -2147483648 ≤ a) (h' : a < 2147483648) : zw a = a := zw_id h h'
theorem zckj {i : Int} {n : Nat} {e : Zr} (h : 0 ≤ i) (h' : i < (n : Int)) : zck i n e = e := if_pos ⟨h, h'⟩
theorem ifp {α : Type} {c : Prop} {dc : Decidable c} {a b : α} (h : c) : (if c then a else b) = a := if_pos h
theorem ifn {α : Type} {c : Prop} {dc : Decidable c} {a b : α} (h : ¬ c) : (if c then a else b) = b := if_neg h
theorem zw_addl (a b : Int) : zw (zw a + b) = zw (a + b) := by
  rw [← zI_inj, ← zI_add, zI_w, zI_add]
theorem zw_addr (a b : Int) : zw (a + zw b) = zw (a + b) := by
  rw [← zI_inj, ← zI_add, zI_w, zI_add]
def oO (p q : Nat) : Prop := q = p
theorem zfo.st1 {σ σ1 : Zm} {o k : Nat} {v : Int} (h : zfo (oO o) σ σ1) : zfo (oO o) σ (zst σ1 o k v) := h.st rfl
theorem zfo.sl1 {σ σ1 : Zm} {o k : Nat} {v : Int} (h : zfo (oO o) σ σ1) : zfo (oO o) σ (zsl σ1 o k v) := h.sl rfl
theorem oO_ne {p q : Nat} (h : q ≠ p) : ¬ oO p q := h
theorem zwp_st {σ : Zm} {o k : Nat} {v : Int} {F : Zm → Zr} {P : Int → Zm → Prop} (h : ∀ σ', zfo (oO o) σ σ' → (∀ j, zrd σ' o j = if j = k then zw v else zrd σ o j) → zwp (F σ') P) : zwp (zlet (zst σ o k v) F) P := by
  refine h _ zfo.rf.st1 (fun j => ?_)
  rw [zrd_st]
  by_cases c : j = k
  · rw [if_pos ⟨rfl, c⟩, if_pos c]
  · rw [if_neg (fun q => c q.2), if_neg c]
theorem zwp_cp {σ : Zm} {a b n : Nat} {F : Zm → Zr} {P : Int → Zm → Prop} (h : ∀ σ', zfo (oO b) σ σ' → (∀ j, zrd σ' b j = if j < n then zrd σ a j else zrd σ b j) → zwp (F σ') P) : zwp (zlet (zcp σ a 0 b 0 n) F) P := by
  refine h _ (zfo.rf.cp rfl) (fun j => ?_)
  rw [zrd_cp]
  by_cases c : j < n
  · rw [if_pos (by omega), if_pos c]
    congr 1
    omega
  · rw [if_neg (by omega), if_neg c]

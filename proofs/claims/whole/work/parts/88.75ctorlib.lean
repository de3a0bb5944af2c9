theorem vr_outer (c : ClassId) (N h0 : Nat) : ∀ i : Nat, Jvm.Free.Multi.outerC c N h0 i = arrV c N (fun j => va_rf (if j < i then some (h0 + 1 + j) else none))
  | 0 => by
    show ({ cls := c, slots := Array.replicate N .null, vm := .none } : Cell) = _
    rw [arrV_new]
    refine congrArg (arrV c N) (funext fun j => ?_)
    simp [va_rf]
  | i + 1 => by
    show (Jvm.Free.Multi.outerC c N h0 i).setSlot i (.ref (h0 + 1 + i)) = _
    rw [vr_outer c N h0 i, arrV_store]
    refine congrArg (arrV c N) (funext fun j => ?_)
    by_cases e : j = i
    · subst e
      simp [updV, va_rf]
    · by_cases h : j < i
      · simp [updV, e, h, Nat.lt_succ_of_lt h]
      · simp [updV, e, h, show ¬ j < i + 1 by omega]
/-! MY OWN: rows of zR that make objects: the constructors' -/
def zρf (ρ : Zp) (o : Nat) : Zp := fun p k => if p = o then false else ρ p k
def zρs (ρ : Zp) (o k : Nat) : Zp := fun p j => if p = o ∧ j = k then true else ρ p j
def zρm (ρ : Zp) (o k : Nat) : Zp := fun p j => if p = o then decide (j < k) else ρ p j
def zcan (ρ : Zp) (lo hi : Nat) : Zp := fun p k => if lo ≤ p ∧ p < hi then true else ρ p k
def zAOA (ty : FieldType) (U : State) : Prop := (Cond.arrayOver ty).before #[] U = true
theorem zAOA_use {ty : FieldType} {A : Array Value} {U : State} (h : zAOA ty U) : (Cond.arrayOver ty).before A U = true := h
theorem zAOA_moved {ty : FieldType} {u U : State} (hvm : u.vm.Alike U.vm) (h : zAOA ty u) : zAOA ty U := by
  have h1 := Cond.arrayOver_setVmC (args := #[]) (s := u) hvm ty
  have h2 : (Cond.arrayOver ty).before #[] U = (Cond.arrayOver ty).before #[] (u.setVm U.vm) := rfl
  unfold zAOA at h ⊢
  rw [h2, h1]
  exact h
def zO (U : State) : Prop := va_AO "BrokenFugue$Line" U ∧ va_AO "BrokenFugue$Rules" U ∧ zAOA (.array .int) U
/-- a place that bears a reference -/
def zisr (o k : Nat) : Prop := (zSH o < 11 ∧ k < zNF (zSH o) ∧ (zTy (zSH o) k).isReference = true) ∨ (23 ≤ zSH o ∧ k < zLN o)
def zTok (ty : FieldType) : Bool := match ty with
  | .int => true
  | .boolean => true
  | .long => true
  | .object _ => true
  | .array _ => true
  | _ => false
theorem zTok_all : ∀ ci, ci < 11 → ∀ k, k < zNF ci → zTok (zTy ci k) = true := by decide +kernel
theorem zdef {G : Zg} {rf : Nat → Nat} {ty : FieldType} {k : Nat} (h : zTok ty = true) : defaultValue ty = zfv G (fun _ => false) rf (fun _ => 0) (fun _ => 0) ty k := by
  cases ty <;> first | (cases h; done) | rfl
theorem zW.push {G : Zg} {n : Nat} {ρ ρ' : Zp} {σ σ' : Zm} {H H1 : Heap} (h : zW G n ρ σ H) (z : H1.size = zad G n + 1) (o1 : ∀ q, q < zad G n → H1[q]? = H[q]?) (hn : va_at G.1 zcl (zad G n, zc1 G ρ' σ' n) H1) (hs : ∀ p, p < n → zc1 G ρ' σ' p = zc1 G ρ σ p) : zW G (n + 1) ρ' σ' H1 := by
  refine ⟨by rw [z]; unfold zad; omega, fun p hp => ?_⟩
  by_cases e : p = n
  · rw [e]; exact hn
  · rw [hs p (by omega)]
    exact (h.2 p (by omega)).kept (o1 _ (by unfold zad; omega))
theorem zS_push {G : Zg} {s : State} {H H1 : Heap} {locs : List Loc} {n : Nat} (hz : H.size = zad G n) (h : va_S (zA G) s.heap H locs) (z : H1.size = zad G n + 1) (o1 : ∀ q, q < zad G n → H1[q]? = H[q]?) : va_S (zA G) s.heap H1 locs :=
  ⟨Nat.le_trans h.1 (by omega), fun x h1 h2 => (o1 x (by have := h.1; omega)).trans (h.2.1 x h1 h2), h.2.2⟩
theorem zc1_zz {G : Zg} {ρ ρ' : Zp} {σ : Zm} {n p : Nat} (h : p < n) (hρ : ∀ k, ρ' p k = ρ p k) : zc1 G ρ' (zzr σ n) p = zc1 G ρ σ p := by
  unfold zc1 zzr
  dsimp only
  have e1 : ρ' p = ρ p := funext hρ
  rw [e1]
  congr 1
  · funext j
    rw [if_neg (by omega)]
  · funext j
    rw [if_neg (by omega)]
theorem zc1_zs {G : Zg} {ρ ρ' : Zp} {σ : Zm} {n k p : Nat} (h : p < n) (hρ : ∀ k, ρ' p k = ρ p k) : zc1 G ρ' (zzs σ n k) p = zc1 G ρ σ p := by
  unfold zc1 zzs
  dsimp only
  have e1 : ρ' p = ρ p := funext hρ
  rw [e1]
  congr 1
  · funext j
    rw [if_neg (by omega)]
  · funext j
    rw [if_neg (by omega)]
section ZCTOR
variable {G : Zg} {p : Program} {l : Launch} {e : Env} {R : Room} {s : State} {m : MethodId} {args : Array Value} {below : List Frame} {meth : Method} {c : Code} {cc : ByteArray} {nL cells slots : Nat} {own : String} {ret : Option FieldType} {Q : State → Prop} {n : Nat} {ρ : Zp} {res : Int × Zm} {σ : Zm} {ex : Zr} {lv : List (Nat × Value)} {pc q : Nat} {st rest : List Value}
theorem zr_new (C : zC G p s m args meth c cc nL own ret) {ci ix : Nat} {F : Zm → Zr} (hc : ci < 11) (hcl : Cond.classLink own ix (zCn ci) ∈ ztb) (hw : Cond.instantiable (zCn ci) (zNF ci) ∈ ztb ∧ Cond.initialized (zCn ci) ∈ ztb) (hsh : zSH n = ci) (hR : cells + 1 ≤ R.cells ∧ slots + zNF ci ≤ R.slots) (d : zD cc pc (.new ix) 3 q) (k : ∀ σ', zR G p l e R s m args below meth c nL (cells + 1) (slots + zNF ci) Q (n + 1) (zρf ρ n) res σ' (F σ') lv q (.ref (zad G n) :: st)) : zR G p l e R s m args below meth c nL cells slots Q n ρ res σ (zlet (zzr σ n) F) lv pc st := by
  obtain ⟨d1, rfl⟩ := d
  intro he ls H locs hl hW hS
  have hts := C.2.2.2.2.1
  have hK := C.2.2.2.2.2.1.1
  have hKn := hK.1 ci _ (zcl_at hc)
  refine W.newcK C.1 C.2.1 C.2.2.2.1 (hts _ hcl) (hts _ hw.1) (hts _ hw.2) rfl d1 hR.1 hR.2 hKn.2.1 (h := zad G n) hW.1 (fun H1 kC hkC e1 z1 o1 => ?_)
  refine k _ he ls H1 locs hl (hW.push z1 o1 ?_ (fun p hp => zc1_zz hp (fun k => by unfold zρf; rw [if_neg (by omega)]))) (zS_push hW.1 hS z1 o1)
  rw [zc1_obj hsh hc]
  refine ⟨_, zcl_at hc, (u_born (zTy ci) hts (zin_ws hc) hKn hkC e1 (zty_ok hc)).to (fun j hj => ?_)⟩
  have h1 : zρf ρ n n = fun _ => false := by funext j; unfold zρf; rw [if_pos rfl]
  have h2 : (zzr σ n).1 n = fun _ => 0 := by funext j; unfold zzr; dsimp only; rw [if_pos rfl]
  have h3 : (zzr σ n).2 n = fun _ => 0 := by funext j; unfold zzr; dsimp only; rw [if_pos rfl]
  rw [h1, h2, h3, zdef (G := G) (rf := zRF n) (k := j) (zTok_all ci hc j hj)]
  unfold vp_V
  rw [List.getD_eq_getElem?_getD, zfs_at hj]
  rfl
theorem zr_newa20 (C : zC G p s m args meth c cc nL own ret) {N : Nat} {a A : Int} {F : Zm → Zr} (hw : Cond.arrayClass .int ∈ ztb) (hsh : zSH n = 20) (hN : zLN n = N) (ha : zw a = A) (hA : A = (N : Int)) (hle : N ≤ 65536) (hR : cells + 1 ≤ R.cells ∧ slots + N ≤ R.slots) (d : zD cc pc (.newarray .int) 2 q) (k : ∀ σ', zR G p l e R s m args below meth c nL (cells + 1) (slots + N) Q (n + 1) ρ res σ' (F σ') lv q (.ref (zad G n) :: st)) : zR G p l e R s m args below meth c nL cells slots Q n ρ res σ (zlet (zzr σ n) F) lv pc (.int (zI a) :: st) := by
  obtain ⟨d1, rfl⟩ := d
  subst hN ha
  intro he ls H locs hl hW hS
  have hts := C.2.2.2.2.1
  have hK := C.2.2.2.2.2.1.1
  have hneg : ¬ zI a < 0 := by
    have h9 : zI a < zI 0 ↔ zw a < zw 0 := zI_lt
    rw [zw_0] at h9
    intro h
    have := h9.mp h
    omega
  refine va_newaK C.1 C.2.1 (atype := .int) (hts _ hw) rfl d1 rfl hneg (N := zLN n) (by rw [zI_cl]; omega) (Nat.le_trans (Nat.mul_le_mul hle (show componentBytes (newarray.typeOf .int) ≤ 8 by decide)) (by decide)) hR.1 hR.2 (h := zad G n) hW.1 (fun H1 cA e1 z1 o1 hAr hNm => ?_)
  have hcA : cA = G.2.1 0 := Option.some.inj (hNm.symm.trans (hK.2 0 (G.2.1 0, .int) rfl).2)
  subst hcA
  refine k _ he ls H1 locs hl (hW.push z1 o1 ?_ (fun p hp => zc1_zz hp (fun k => rfl))) (zS_push hW.1 hS z1 o1)
  rw [zc1_20 hsh]
  have h2 : (zzr σ n).1 n = fun _ => 0 := by funext j; unfold zzr; dsimp only; rw [if_pos rfl]
  have h3 : (zzr σ n).2 n = fun _ => 0 := by funext j; unfold zzr; dsimp only; rw [if_pos rfl]
  show H1[zad G n]? = some (vp_cell _ _)
  rw [e1]
  first | rw [h2] | rw [h3]
  rfl
theorem zr_newa21 (C : zC G p s m args meth c cc nL own ret) {N : Nat} {a A : Int} {F : Zm → Zr} (hw : Cond.arrayClass .boolean ∈ ztb) (hsh : zSH n = 21) (hN : zLN n = N) (ha : zw a = A) (hA : A = (N : Int)) (hle : N ≤ 65536) (hR : cells + 1 ≤ R.cells ∧ slots + N ≤ R.slots) (d : zD cc pc (.newarray .boolean) 2 q) (k : ∀ σ', zR G p l e R s m args below meth c nL (cells + 1) (slots + N) Q (n + 1) ρ res σ' (F σ') lv q (.ref (zad G n) :: st)) : zR G p l e R s m args below meth c nL cells slots Q n ρ res σ (zlet (zzr σ n) F) lv pc (.int (zI a) :: st) := by
  obtain ⟨d1, rfl⟩ := d
  subst hN ha
  intro he ls H locs hl hW hS
  have hts := C.2.2.2.2.1
  have hK := C.2.2.2.2.2.1.1
  have hneg : ¬ zI a < 0 := by
    have h9 : zI a < zI 0 ↔ zw a < zw 0 := zI_lt
    rw [zw_0] at h9
    intro h
    have := h9.mp h
    omega
  refine va_newaK C.1 C.2.1 (atype := .boolean) (hts _ hw) rfl d1 rfl hneg (N := zLN n) (by rw [zI_cl]; omega) (Nat.le_trans (Nat.mul_le_mul hle (show componentBytes (newarray.typeOf .boolean) ≤ 8 by decide)) (by decide)) hR.1 hR.2 (h := zad G n) hW.1 (fun H1 cA e1 z1 o1 hAr hNm => ?_)
  have hcA : cA = G.2.1 1 := Option.some.inj (hNm.symm.trans (hK.2 1 (G.2.1 1, .boolean) rfl).2)
  subst hcA
  refine k _ he ls H1 locs hl (hW.push z1 o1 ?_ (fun p hp => zc1_zz hp (fun k => rfl))) (zS_push hW.1 hS z1 o1)
  rw [zc1_21 hsh]
  have h2 : (zzr σ n).1 n = fun _ => 0 := by funext j; unfold zzr; dsimp only; rw [if_pos rfl]
  have h3 : (zzr σ n).2 n = fun _ => 0 := by funext j; unfold zzr; dsimp only; rw [if_pos rfl]
  show H1[zad G n]? = some (vp_cell _ _)
  rw [e1]
  first | rw [h2] | rw [h3]
  rfl
theorem zr_newa22 (C : zC G p s m args meth c cc nL own ret) {N : Nat} {a A : Int} {F : Zm → Zr} (hw : Cond.arrayClass .long ∈ ztb) (hsh : zSH n = 22) (hN : zLN n = N) (ha : zw a = A) (hA : A = (N : Int)) (hle : N ≤ 65536) (hR : cells + 1 ≤ R.cells ∧ slots + N ≤ R.slots) (d : zD cc pc (.newarray .long) 2 q) (k : ∀ σ', zR G p l e R s m args below meth c nL (cells + 1) (slots + N) Q (n + 1) ρ res σ' (F σ') lv q (.ref (zad G n) :: st)) : zR G p l e R s m args below meth c nL cells slots Q n ρ res σ (zlet (zzr σ n) F) lv pc (.int (zI a) :: st) := by
  obtain ⟨d1, rfl⟩ := d
  subst hN ha
  intro he ls H locs hl hW hS
  have hts := C.2.2.2.2.1
  have hK := C.2.2.2.2.2.1.1
  have hneg : ¬ zI a < 0 := by
    have h9 : zI a < zI 0 ↔ zw a < zw 0 := zI_lt
    rw [zw_0] at h9
    intro h
    have := h9.mp h
    omega
  refine va_newaK C.1 C.2.1 (atype := .long) (hts _ hw) rfl d1 rfl hneg (N := zLN n) (by rw [zI_cl]; omega) (Nat.le_trans (Nat.mul_le_mul hle (show componentBytes (newarray.typeOf .long) ≤ 8 by decide)) (by decide)) hR.1 hR.2 (h := zad G n) hW.1 (fun H1 cA e1 z1 o1 hAr hNm => ?_)
  have hcA : cA = G.2.1 2 := Option.some.inj (hNm.symm.trans (hK.2 2 (G.2.1 2, .long) rfl).2)
  subst hcA
  refine k _ he ls H1 locs hl (hW.push z1 o1 ?_ (fun p hp => zc1_zz hp (fun k => rfl))) (zS_push hW.1 hS z1 o1)
  rw [zc1_22 hsh]
  have h2 : (zzr σ n).1 n = fun _ => 0 := by funext j; unfold zzr; dsimp only; rw [if_pos rfl]
  have h3 : (zzr σ n).2 n = fun _ => 0 := by funext j; unfold zzr; dsimp only; rw [if_pos rfl]
  show H1[zad G n]? = some (vp_cell _ _)
  rw [e1]
  first | rw [h2] | rw [h3]
  rfl
theorem zr_anew23 (C : zC G p s m args meth c cc nL own ret) (hO : zO s) {N ix : Nat} {a A : Int} {F : Zm → Zr} (hcl : Cond.classLink own ix "BrokenFugue$Line" ∈ ztb) (hsh : zSH n = 23) (hN : zLN n = N) (ha : zw a = A) (hA : A = (N : Int)) (hle : N ≤ 65536) (hR : cells + 1 ≤ R.cells ∧ slots + N ≤ R.slots) (d : zD cc pc (.anewarray ix) 3 q) (k : ∀ σ', zR G p l e R s m args below meth c nL (cells + 1) (slots + N) Q (n + 1) (zρf ρ n) res σ' (F σ') lv q (.ref (zad G n) :: st)) : zR G p l e R s m args below meth c nL cells slots Q n ρ res σ (zlet (zzr σ n) F) lv pc (.int (zI a) :: st) := by
  obtain ⟨d1, rfl⟩ := d
  subst hN ha
  intro he ls H locs hl hW hS
  have hts := C.2.2.2.2.1
  have hK := C.2.2.2.2.2.1.1
  have hneg : ¬ zI a < 0 := by
    have h9 : zI a < zI 0 ↔ zw a < zw 0 := zI_lt
    rw [zw_0] at h9
    intro h
    have := h9.mp h
    omega
  have hcl9 : (zI a).toNatClampNeg = zLN n := by rw [zI_cl]; omega
  refine W.anew C.1 C.2.1 C.2.2.2.1 (hts _ hcl) (va_AO.use hO.1) rfl d1 rfl hneg (by rw [hcl9]; omega) hR.1 (by rw [hcl9]; exact hR.2) fun cA kA comp f1 f2 f3 f4 => ?_
  rw [hcl9]
  generalize hH1 : H.push ({ cls := cA, slots := Array.replicate (zLN n) .null, vm := .none } : Cell) = H1
  have hsz : H.size = zad G n := hW.1
  have z1 : H1.size = zad G n + 1 := by rw [← hH1, Array.size_push, hsz]
  have e1 : H1[zad G n]? = some (arrV cA (zLN n) (fun _ => .null)) := by rw [← hH1, ← hsz, Array.getElem?_push_size, ← arrV_new]
  have o1 : ∀ q : Nat, q < zad G n → H1[q]? = H[q]? := fun q hq => by rw [← hH1, Array.getElem?_push, if_neg (by omega)]
  have hcA : cA = G.2.1 3 := by
    obtain ⟨kA', comp', g1, g2, g3, g4⟩ := (hK.2 3 (G.2.1 3, .object "BrokenFugue$Line") rfl).2
    exact Option.some.inj (f1.symm.trans g4)
  subst hcA
  rw [hsz]
  refine k _ he ls H1 locs hl (hW.push z1 o1 ?_ (fun p hp => zc1_zz hp (fun k => by unfold zρf; rw [if_neg (by omega)]))) (zS_push hW.1 hS z1 o1)
  rw [zc1_23 hsh]
  have h1 : zρf ρ n n = fun _ => false := by funext j; unfold zρf; rw [if_pos rfl]
  show H1[zad G n]? = some (vp_cell _ _)
  rw [e1, h1, vp_cell_q]
  rfl
theorem zr_anew24 (C : zC G p s m args meth c cc nL own ret) (hO : zO s) {N ix : Nat} {a A : Int} {F : Zm → Zr} (hcl : Cond.classLink own ix "BrokenFugue$Rules" ∈ ztb) (hsh : zSH n = 24) (hN : zLN n = N) (ha : zw a = A) (hA : A = (N : Int)) (hle : N ≤ 65536) (hR : cells + 1 ≤ R.cells ∧ slots + N ≤ R.slots) (d : zD cc pc (.anewarray ix) 3 q) (k : ∀ σ', zR G p l e R s m args below meth c nL (cells + 1) (slots + N) Q (n + 1) (zρf ρ n) res σ' (F σ') lv q (.ref (zad G n) :: st)) : zR G p l e R s m args below meth c nL cells slots Q n ρ res σ (zlet (zzr σ n) F) lv pc (.int (zI a) :: st) := by
  obtain ⟨d1, rfl⟩ := d
  subst hN ha
  intro he ls H locs hl hW hS
  have hts := C.2.2.2.2.1
  have hK := C.2.2.2.2.2.1.1
  have hneg : ¬ zI a < 0 := by
    have h9 : zI a < zI 0 ↔ zw a < zw 0 := zI_lt
    rw [zw_0] at h9
    intro h
    have := h9.mp h
    omega
  have hcl9 : (zI a).toNatClampNeg = zLN n := by rw [zI_cl]; omega
  refine W.anew C.1 C.2.1 C.2.2.2.1 (hts _ hcl) (va_AO.use hO.2.1) rfl d1 rfl hneg (by rw [hcl9]; omega) hR.1 (by rw [hcl9]; exact hR.2) fun cA kA comp f1 f2 f3 f4 => ?_
  rw [hcl9]
  generalize hH1 : H.push ({ cls := cA, slots := Array.replicate (zLN n) .null, vm := .none } : Cell) = H1
  have hsz : H.size = zad G n := hW.1
  have z1 : H1.size = zad G n + 1 := by rw [← hH1, Array.size_push, hsz]
  have e1 : H1[zad G n]? = some (arrV cA (zLN n) (fun _ => .null)) := by rw [← hH1, ← hsz, Array.getElem?_push_size, ← arrV_new]
  have o1 : ∀ q : Nat, q < zad G n → H1[q]? = H[q]? := fun q hq => by rw [← hH1, Array.getElem?_push, if_neg (by omega)]
  have hcA : cA = G.2.1 4 := by
    obtain ⟨kA', comp', g1, g2, g3, g4⟩ := (hK.2 4 (G.2.1 4, .object "BrokenFugue$Rules") rfl).2
    exact Option.some.inj (f1.symm.trans g4)
  subst hcA
  rw [hsz]
  refine k _ he ls H1 locs hl (hW.push z1 o1 ?_ (fun p hp => zc1_zz hp (fun k => by unfold zρf; rw [if_neg (by omega)]))) (zS_push hW.1 hS z1 o1)
  rw [zc1_24 hsh]
  have h1 : zρf ρ n n = fun _ => false := by funext j; unfold zρf; rw [if_pos rfl]
  show H1[zad G n]? = some (vp_cell _ _)
  rw [e1, h1, vp_cell_q]
  rfl
theorem zr_mna (C : zC G p s m args meth c cc nL own ret) (hO : zO s) {N K ix : Nat} {a b A B : Int} {F : Zm → Zr} (hcl : Cond.classLink own ix "[[I" ∈ ztb) (hw : Cond.arrayClass .int ∈ ztb) (hsh : zSH n = 25) (hN : zLN n = N) (hin : ∀ j, j < N → zSH (n + 1 + j) = 20 ∧ zLN (n + 1 + j) = K ∧ zRF n j = n + 1 + j) (ha : zw a = A) (hA : A = (N : Int)) (hb : zw b = B) (hB : B = (K : Int)) (hle : N ≤ 65536) (hle2 : K ≤ 65536) (hR : cells + (1 + N) ≤ R.cells ∧ slots + (N + N * K) ≤ R.slots) (d : zD cc pc (.multianewarray ix 2) 4 q) (k : ∀ σ', zR G p l e R s m args below meth c nL (cells + 1 + N) (slots + N + N * K) Q (n + (1 + N)) (zρm ρ n N) res σ' (F σ') lv q (.ref (zad G n) :: st)) : zR G p l e R s m args below meth c nL cells slots Q n ρ res σ (zlet (zzs σ n (1 + N)) F) lv pc (.int (zI b) :: .int (zI a) :: st) := by
  obtain ⟨d1, rfl⟩ := d
  subst ha hb
  intro he ls H locs hl hW hS
  have hts := C.2.2.2.2.1
  have hK := C.2.2.2.2.2.1.1
  have hneg : ∀ a : Int, 0 ≤ zw a → ¬ zI a < 0 := by
    intro a h0 h
    have h9 : zI a < zI 0 ↔ zw a < zw 0 := zI_lt
    rw [zw_0] at h9
    have := h9.mp h
    omega
  have hca : (zI a).toNatClampNeg = N := by rw [zI_cl]; omega
  have hcb : (zI b).toNatClampNeg = K := by rw [zI_cl]; omega
  have hsz : H.size = zad G n := hW.1
  intro T hT Xs
  obtain ⟨vm₁, cA, comp, -, fA, fC, hO2, -, X', step⟩ := Xs.multianewarray2F C.1 (ty := .int) C.2.2.2.1 (hts _ hcl) (zAOA_use hO.2.2) (hts _ hw) (g := F0 m pc ls (.int (zI b) :: .int (zI a) :: st)) rfl (by rw [C.2.1]; exact d1) rfl (hneg a (by omega)) (hneg b (by omega)) (by rw [hca]; omega) (by rw [hcb]; exact Nat.le_trans (Nat.mul_le_mul hle2 (show componentBytes .int ≤ 8 by decide)) (by decide)) (by rw [hcb]; omega) rfl rfl (by rw [hca]; exact hR.1) (by rw [hca, hcb]; exact hR.2)
  rw [hca, hcb] at X' step
  have hcA : cA = G.2.1 5 := Option.some.inj (fA.symm.trans (hK.2 5 (G.2.1 5, .array .int) rfl).2)
  have hcI : comp = G.2.1 0 := Option.some.inj (fC.symm.trans (hK.2 0 (G.2.1 0, .int) rfl).2)
  subst hcA hcI
  generalize hF : Jvm.Free.Multi.fill (T.setVm vm₁) (G.2.1 5) (G.2.1 0) N K (defaultValue .int) N = F9 at X' step
  have hTh : (T.setVm vm₁).heap = H := hT
  obtain ⟨f1, f2, -, -⟩ := Jvm.Free.Multi.fill_facts (T.setVm vm₁) (G.2.1 5) (G.2.1 0) N K (defaultValue .int) N
  rw [hF, hTh] at f1 f2
  have hold : ∀ x : Nat, x < zad G n → F9.heap[x]? = H[x]? := fun x hx => by
    have := Jvm.Free.Multi.fill_old (T.setVm vm₁) (G.2.1 5) (G.2.1 0) N K (defaultValue .int) (a := x) (by rw [hTh, hsz]; exact hx) N
    rw [hF, hTh] at this
    exact this
  have hrow : ∀ j : Nat, j < N → F9.heap[zad G n + 1 + j]? = some (vp_cell (G.2.1 0) (K, .inl (fun _ => 0))) := fun j hj => by
    have := Jvm.Free.Multi.fill_inner (T.setVm vm₁) (G.2.1 5) (G.2.1 0) N K (defaultValue .int) N j hj
    rw [hF, hTh, hsz] at this
    rw [this]
    congr 1
    rw [vp_cell_i]
    exact arrV_new ..
  have hout : Jvm.Free.Multi.outerC (G.2.1 5) N H.size N = vp_cell (G.2.1 5) (N, .inr (.inr (.inr (.inr (fun i => if i < N then some (H.size + 1 + i) else none))))) := by
    rw [vp_cell_q]
    exact vr_outer (G.2.1 5) N H.size N
  rw [hout, hsz] at f2
  have hW2 : zW G (n + (1 + N)) (zρm ρ n N) (zzs σ n (1 + N)) F9.heap := by
    refine ⟨by rw [f1, hsz]; unfold zad; omega, fun p hp => ?_⟩
    by_cases h1 : p < n
    · rw [zc1_zs h1 (fun k => by unfold zρm; rw [if_neg (by omega)])]
      exact (hW.2 p h1).kept (hold _ (by unfold zad; omega))
    · by_cases h2 : p = n
      · subst h2
        rw [zc1_25 hsh]
        show F9.heap[zad G p]? = some (vp_cell _ _)
        rw [f2, hN]
        congr 1
        rw [vp_cell_q, vp_cell_q]
        unfold arrV
        congr 2
        funext j
        unfold zrs zρm
        have := hin j.val j.isLt
        have hz : zad G (zRF p j.val) = zad G p + 1 + j.val := by rw [this.2.2]; unfold zad; omega
        simp [j.isLt, hz]
      · obtain ⟨j, rfl⟩ : ∃ j, p = n + 1 + j := ⟨p - (n + 1), by omega⟩
        have hj : j < N := by omega
        rw [zc1_20 (hin j hj).1, (hin j hj).2.1]
        have h3 : (zzs σ n (1 + N)).1 (n + 1 + j) = fun _ => 0 := by funext i; unfold zzs; dsimp only; rw [if_pos (by omega)]
        rw [h3]
        have h4 := hrow j hj
        rw [show zad G n + 1 + j = zad G (n + 1 + j) by unfold zad; omega] at h4
        exact h4
  obtain ⟨t, a1, b1⟩ := k _ he ls F9.heap locs hl hW2 ⟨by rw [f1, hsz]; have := hS.1; omega, fun x h1 h2 => (hold x (by have := hS.1; omega)).trans (hS.2.1 x h1 h2), hS.2.2⟩ F9 rfl X'
  refine ⟨t, step t ?_, b1⟩
  have e9 : T.heap.size = zad G n := by rw [hT, hsz]
  rw [e9]
  exact a1
/-- a reference into a final field, in a constructor -/
theorem zr_putR (C : zC G p s m args meth c cc nL own ret) {o ix ci fk t : Nat} {ty : FieldType} (f : zFd own ix ci fk ty) (hty : ty.isReference = true) (hfin : (zTt ci fk).2.2.2 = true) (hnm : meth.name = "<init>") (hown : zCn ci = own) (hi : zin n o ci) (ht : zRF o fk = t) (d : zD cc pc (.putfield ix) 3 q) (k : zR G p l e R s m args below meth c nL cells slots Q n (zρs ρ o fk) res σ ex lv q st) : zR G p l e R s m args below meth c nL cells slots Q n ρ res σ ex lv pc (.ref (zad G t) :: .ref (zad G o) :: st) := by
  obtain ⟨d1, rfl⟩ := d
  subst ht
  intro he ls H locs hl hW hS
  obtain ⟨F1, ⟨hc, hk⟩, htyq⟩ := f
  have hts := C.2.2.2.2.1
  have hK := C.2.2.2.2.2.1.1
  have hcl := zcl_at hc
  have hin := zin_ws hc
  have hap := va_apart (own := own) hts hin (zTy ci) (zty_ok hc) (znm hc) hK hcl
  have hat := hW.2 o hi.2
  rw [zc1_obj hi.1 hc] at hat
  obtain ⟨r, h1, cell, q1, q2, q3, q4⟩ := hat
  have hr : r = (zCn ci, zTt ci, zNF ci) := Option.some.inj (h1.symm.trans hcl)
  subst hr
  obtain ⟨hSl, hfc, kC, hkC, hkind⟩ := hK.1 ci _ hcl
  obtain ⟨cf, kf, fi, f9, hif, hsl⟩ := hSl fk hk
  have hlay := hts _ (hin _ (u_in_lay hk))
  unfold u_lay at hlay
  rw [if_pos hfin] at hlay
  have hst := (u_facts hfc hkC (u_lays hts hin hk) hif).1
  have hcf : m.cls = cf := by
    obtain ⟨_, _, c', _, _, _, -, -, hf', -, -, -, hown2, -⟩ := Cond.laysFinal_spec hlay
    have e1 : c' = cf := by have := hif.symm.trans hf'; simp at this; exact this.1.symm
    rw [zown hc fk hk, hown] at hown2
    rw [← e1]; exact Option.some.inj (C.2.2.2.1.symm.trans hown2)
  have hd : parseFieldDescriptor (zTt ci fk).2.2.1 = some ty := by rw [zty_ok hc fk hk, htyq]
  have hnr : narrow ty (.ref (zad G (zRF o fk))) = .ref (zad G (zRF o fk)) := by cases ty <;> first | rfl | (cases hty; done)
  have hft : fits ty (.ref (zad G (zRF o fk))) = true := by cases ty <;> first | rfl | (cases hty; done)
  have h6 := u_fits hfc hkC hkind (Or.inr hlay) hif hd hnr hft
  have hif2 : s.fieldFound? (zCn ci) (zTt ci fk).2.1 (zTt ci fk).2.2.1 = some (cf, kf, fi, f9) := by
    have h := hif
    dsimp only at h
    rw [zown hc fk hk] at h
    exact h
  have fin : ∀ H' : Heap, H'[zad G o]? = some (cell.setSlot f9.slot (.ref (zad G (zRF o fk)))) → H'.size = H.size → (∀ q, q ≠ zad G o → H'[q]? = H[q]?) → W p l e R s m args below meth c H' (locs ++ [⟨zad G o, f9.slot⟩]) cells slots Q (F0 m (pc + 3) ls st) := by
    intro H' e1 e2 e3
    rw [hsl] at e1 ⊢
    refine k he ls H' _ hl (hW.upd (o := o) e2 e3 ?_ (fun p hp => ?_)) (hS.put e2 e3 (zad_A G o))
    · rw [zc1_obj hi.1 hc, ← zfs_set (k := fk) (v := .ref (zad G (zRF o fk))) (r := ρ o) (i := σ.1 o) (j := σ.2 o) (i' := σ.1 o) (j' := σ.2 o) (r' := zρs ρ o fk o)]
      · exact ⟨_, hcl, t_OB.to (V := updV (vp_V (zfs G ci (ρ o) (zRF o) (σ.1 o) (σ.2 o))) fk _) ⟨_, e1, q2, q3, t_set q4 hap hk _⟩ (fun j _ => vp_updV_set (by rw [zfs_len]; exact hk) _ j)⟩
      · rw [htyq]
        have : zρs ρ o fk o fk = true := by unfold zρs; rw [if_pos ⟨rfl, rfl⟩]
        cases ty <;> first | (cases hty; done) | (simp only [zfv, this, if_true])
      · intro q hq
        refine ⟨?_, rfl, rfl⟩
        unfold zρs
        rw [if_neg (fun z => hq z.2)]
    · unfold zc1
      congr 1
      funext j
      unfold zρs
      rw [if_neg (fun z => hp z.1)]
  · exact W.putFinK C.1 C.2.1 C.2.2.2.1 (hts _ F1) hif2 hst hcf hnm (by rw [q2]; exact h6) q1 q3 (by rw [hsl]; exact k2_hasslot (q4 fk hk)) rfl rfl d1 fin

theorem zr_aast23 (C : zC G p s m args meth c cc nL own ret) {o N t : Nat} {i J : Int} (hi : zin n o 23) (hN : zLN o = N) (hj : zw i = J) (hr : 0 ≤ J ∧ J < (N : Int)) (ht : zRF o J.toNat = t) (hti : zin n t 3) (d : zD cc pc .aastore 1 q) (k : zR G p l e R s m args below meth c nL cells slots Q n (zρs ρ o J.toNat) res σ ex lv q st) : zR G p l e R s m args below meth c nL cells slots Q n ρ res σ ex lv pc (.ref (zad G t) :: .int (zI i) :: .ref (zad G o) :: st) := by
  obtain ⟨d1, rfl⟩ := d
  subst hN hj ht
  intro he ls H locs hl hW hS
  have hK := C.2.2.2.2.2.1.1
  have hat := hW.2 o hi.2
  rw [zc1_23 hi.1] at hat
  have hlt : (zI i).toNatClampNeg < zLN o := by rw [zI_cl]; omega
  have h0 : ¬ zI i < 0 := by
    have h9 : zI i < zI 0 ↔ zw i < zw 0 := zI_lt
    rw [zw_0] at h9
    intro h
    have := h9.mp h
    omega
  have hatv := hW.2 _ hti.2
  rw [zc1_obj hti.1 (by decide)] at hatv
  obtain ⟨r', hr', cellV, g1, g2, g3, -⟩ := hatv
  have hcls := (hK.1 3 _ (zcl_at (c := 3) (by decide))).2
  obtain ⟨kA, comp, k1, k2, k3, -⟩ := (hK.2 3 (G.2.1 3, .object "BrokenFugue$Line") rfl).2
  have hcomp : comp = G.1.1 3 := Option.some.inj (k3.symm.trans hcls.1)
  subst hcomp
  obtain ⟨kC, hkC, -⟩ := hcls.2
  refine W.aast C.1 C.2.1 hat (fun q h => by cases h) (fun h => by cases h) k1 k2 rfl hkC ⟨h0, by show _ < (arrV _ _ _).slots.size; rw [arrV_size]; exact hlt⟩ g1 (fun q h => by rw [g3] at h; cases h) (by rw [g2]; exact hkC) (by rw [g2]; exact va_assign hcls) rfl rfl d1 fun H1 e z oq => ?_
  refine k he ls H1 _ hl (hW.upd (o := o) z oq ?_ (fun p hp => ?_)) (hS.put z oq (zad_A G o))
  · rw [zc1_23 hi.1]
    show H1[zad G o]? = some (vp_cell _ _)
    rw [e]
    rw [vp_cell_q, vp_cell_q, arrV_store]
    congr 2
    funext q
    by_cases hq : q = (zI i).toNatClampNeg
    · subst hq
      simp [updV, va_rf, zrs, zρs, zI_cl]
    · rw [zI_cl] at hq
      simp [updV, zrs, zρs, zI_cl, hq]
  · unfold zc1
    congr 1
    funext j
    unfold zρs
    rw [if_neg (fun z => hp z.1)]
theorem zr_aast24 (C : zC G p s m args meth c cc nL own ret) {o N t : Nat} {i J : Int} (hi : zin n o 24) (hN : zLN o = N) (hj : zw i = J) (hr : 0 ≤ J ∧ J < (N : Int)) (ht : zRF o J.toNat = t) (hti : zin n t 6) (d : zD cc pc .aastore 1 q) (k : zR G p l e R s m args below meth c nL cells slots Q n (zρs ρ o J.toNat) res σ ex lv q st) : zR G p l e R s m args below meth c nL cells slots Q n ρ res σ ex lv pc (.ref (zad G t) :: .int (zI i) :: .ref (zad G o) :: st) := by
  obtain ⟨d1, rfl⟩ := d
  subst hN hj ht
  intro he ls H locs hl hW hS
  have hK := C.2.2.2.2.2.1.1
  have hat := hW.2 o hi.2
  rw [zc1_24 hi.1] at hat
  have hlt : (zI i).toNatClampNeg < zLN o := by rw [zI_cl]; omega
  have h0 : ¬ zI i < 0 := by
    have h9 : zI i < zI 0 ↔ zw i < zw 0 := zI_lt
    rw [zw_0] at h9
    intro h
    have := h9.mp h
    omega
  have hatv := hW.2 _ hti.2
  rw [zc1_obj hti.1 (by decide)] at hatv
  obtain ⟨r', hr', cellV, g1, g2, g3, -⟩ := hatv
  have hcls := (hK.1 6 _ (zcl_at (c := 6) (by decide))).2
  obtain ⟨kA, comp, k1, k2, k3, -⟩ := (hK.2 4 (G.2.1 4, .object "BrokenFugue$Rules") rfl).2
  have hcomp : comp = G.1.1 6 := Option.some.inj (k3.symm.trans hcls.1)
  subst hcomp
  obtain ⟨kC, hkC, -⟩ := hcls.2
  refine W.aast C.1 C.2.1 hat (fun q h => by cases h) (fun h => by cases h) k1 k2 rfl hkC ⟨h0, by show _ < (arrV _ _ _).slots.size; rw [arrV_size]; exact hlt⟩ g1 (fun q h => by rw [g3] at h; cases h) (by rw [g2]; exact hkC) (by rw [g2]; exact va_assign hcls) rfl rfl d1 fun H1 e z oq => ?_
  refine k he ls H1 _ hl (hW.upd (o := o) z oq ?_ (fun p hp => ?_)) (hS.put z oq (zad_A G o))
  · rw [zc1_24 hi.1]
    show H1[zad G o]? = some (vp_cell _ _)
    rw [e]
    rw [vp_cell_q, vp_cell_q, arrV_store]
    congr 2
    funext q
    by_cases hq : q = (zI i).toNatClampNeg
    · subst hq
      simp [updV, va_rf, zrs, zρs, zI_cl]
    · rw [zI_cl] at hq
      simp [updV, zrs, zρs, zI_cl, hq]
  · unfold zc1
    congr 1
    funext j
    unfold zρs
    rw [if_neg (fun z => hp z.1)]
theorem zr_objInit (C : zC G p s m args meth c cc nL own ret) {a ix : Nat} (hl9 : Cond.methodLink own ix objectInit ∈ ztb) (hw : Cond.instanceMethod objectInit ∈ ztb ∧ Cond.code objectInit ⟨#[0xb1]⟩ 1 none ∈ ztb) (hR : 1 ≤ R.frames ∧ 20 ≤ R.locals) (hsum : (st.map fun v => v.category).sum ≤ 8) (d : zD cc pc (.invokespecial ix) 3 q) (k : zR G p l e R s m args below meth c nL cells slots Q n ρ res σ ex lv q st) : zR G p l e R s m args below meth c nL cells slots Q n ρ res σ ex lv pc (.ref a :: st) := by
  obtain ⟨d1, rfl⟩ := d
  intro he ls H locs hl hW hS
  have hts := C.2.2.2.2.1
  refine W.objInit C.1 C.2.1 C.2.2.2.1 (hts _ hl9) (hts _ hw.1) (hts _ hw.2) rfl (hl.1.trans C.2.2.1.symm) rfl d1 hR.1 (by have h2 := hR.2; show 2 * 0 + _ + 12 ≤ _; omega) ?_
  exact k he ls H locs hl hW hS
theorem zr_mmaxq (C : zC G p s m args meth c cc nL own ret) {a b A B : Int} {ix : Nat} {F : Int → Zr} (L : Cond.methodLink own ix Lib.Math.max.name ∈ ztb) (Y : Cond.static Lib.Math.max.name ∈ ztb ∧ Cond.initialized "java/lang/Math" ∈ ztb ∧ Cond.code Lib.Math.max.name Lib.Math.max.code 2 (some .int) ∈ ztb) (hR : zRm R cells slots 2 0) (hsum : (rest.map fun v => v.category).sum ≤ 8) (ha : zw a = A) (hb : zw b = B) (d : zD cc pc (.invokestatic ix) 3 q) (k : ∀ v, v = max A B → zw v = v → zR G p l e R s m args below meth c nL cells slots Q n ρ res σ (F v) lv q (.int (zI v) :: rest)) : zR G p l e R s m args below meth c nL cells slots Q n ρ res σ (zlet (max A B) F) lv pc (.int (zI b) :: .int (zI a) :: rest) := by
  refine zr_eq (ex' := zlet (max A B) (fun v => if v = max A B then F v else none)) (by show F (max A B) = if max A B = max A B then F (max A B) else none; rw [if_pos rfl]) ?_
  exact zr_mmax C L Y hR hsum ha hb d (fun v nv => zr_if (fun e => k v e nv) (fun _ => zr_none))
/-- the same world under another account of what is set -/
theorem zW.rho {G : Zg} {n : Nat} {ρ ρ' : Zp} {σ : Zm} {H : Heap} (hn : n ≤ 294) (hW : zW G n ρ σ H) (h : ∀ o, o < n → ∀ k, zisr o k → ρ o k = ρ' o k) : zW G n ρ' σ H := by
  refine ⟨hW.1, fun o ho => ?_⟩
  have hat := hW.2 o ho
  have hsh : zSH o < 11 ∨ (20 ≤ zSH o ∧ zSH o < 26) := by
    have h2 : ∀ o, o < 294 → zSH o < 11 ∨ (20 ≤ zSH o ∧ zSH o < 26) := by decide +kernel
    exact h2 o (by omega)
  have e : 23 ≤ zSH o → ∀ sh, zSH o = sh → ∀ cA : ClassId, va_at G.1 zcl (zad G o, .inl (cA, zLN o, .inr (.inr (.inr (.inr (zrs G (ρ o) (zRF o))))))) H → va_at G.1 zcl (zad G o, .inl (cA, zLN o, .inr (.inr (.inr (.inr (zrs G (ρ' o) (zRF o))))))) H := by
    intro h20 sh hsh cA h1
    have h2 : H[zad G o]? = some (vp_cell cA (zLN o, .inr (.inr (.inr (.inr (zrs G (ρ o) (zRF o))))))) := h1
    show H[zad G o]? = some (vp_cell _ _)
    rw [h2]
    congr 1
    rw [vp_cell_q, vp_cell_q]
    unfold arrV
    congr 2
    funext j
    have h8 := h o ho j.val (Or.inr ⟨h20, j.isLt⟩)
    unfold zrs
    dsimp only
    rw [h8]
  rcases hsh with h1 | ⟨h1, h2⟩
  · rw [zc1_obj rfl h1] at hat ⊢
    have e2 : zfs G (zSH o) (ρ o) (zRF o) (σ.1 o) (σ.2 o) = zfs G (zSH o) (ρ' o) (zRF o) (σ.1 o) (σ.2 o) := by
      unfold zfs
      apply List.map_congr_left
      intro k hk
      have hk2 := List.mem_range.mp hk
      by_cases hr : (zTy (zSH o) k).isReference = true
      · unfold zfv
        rw [h o ho k (Or.inl ⟨h1, hk2, hr⟩)]
      · unfold zfv
        cases hty : zTy (zSH o) k <;> first | rfl | (rw [hty] at hr; exact absurd rfl hr)
    rw [← e2]
    exact hat
  · rcases (show zSH o = 20 ∨ zSH o = 21 ∨ zSH o = 22 ∨ zSH o = 23 ∨ zSH o = 24 ∨ zSH o = 25 by omega) with q | q | q | q | q | q
    · rw [zc1_20 q] at hat ⊢; exact hat
    · rw [zc1_21 q] at hat ⊢; exact hat
    · rw [zc1_22 q] at hat ⊢; exact hat
    · rw [zc1_23 q] at hat ⊢; exact e (by omega) _ q _ hat
    · rw [zc1_24 q] at hat ⊢; exact e (by omega) _ q _ hat
    · rw [zc1_25 q] at hat ⊢; exact e (by omega) _ q _ hat
theorem zr_ρ {ρ' : Zp} (hn : n ≤ 294) (h : ∀ o, o < n → ∀ k, zisr o k → ρ o k = ρ' o k) (k : zR G p l e R s m args below meth c nL cells slots Q n ρ' res σ ex lv pc st) : zR G p l e R s m args below meth c nL cells slots Q n ρ res σ ex lv pc st :=
  fun he ls H locs hl hW hS => k he ls H locs hl (hW.rho hn h) hS
def zPx (G : Zg) (n : Nat) (ρ : Zp) (σ : Zm) (av : List Value) : Array Value → State → Prop := fun a U => a = av.toArray ∧ zW G n ρ σ U.heap ∧ zE G U ∧ zO U
def zrc (d mc ms : Nat) : Room := { frames := d, cells := mc, slots := ms, locals := 40 * d }
def zMc (l : Launch) (y : MethodName) (cc : ByteArray) (maxL : Nat) (d : Nat) (G : Zg) (n : Nat) (ρ : Zp) (σ : Zm) (av : List Value) (n' : Nat) (ρ' : Zp) (σ' : Zm) (mc ms : Nat) : Prop :=
  Met l y (.code y cc maxL none :: ztb) (zrc d mc ms) (zPx G n ρ σ av) (zQc G n' ρ' none σ') mc ms (zA G)
theorem zO_warm {s U : State} (h : zO s) (hW : s.WarmedH U.vm) : zO U := ⟨va_AO.moved hW.alike h.1, va_AO.moved hW.alike h.2.1, zAOA_moved hW.alike h.2.2⟩
theorem zPx_blind {av : List Value} : FrameBlind (zPx G n ρ σ av) := fun a U g mk h => ⟨h.1, h.2.1, zE_call h.2.2.1 g mk a, ⟨va_AO.moved (U := U.calling g mk a) (Vm.Alike.refl U.vm) h.2.2.2.1, va_AO.moved (U := U.calling g mk a) (Vm.Alike.refl U.vm) h.2.2.2.2.1, zAOA_moved (U := U.calling g mk a) (Vm.Alike.refl U.vm) h.2.2.2.2.2⟩⟩
theorem zPx_U {H : Heap} {locs : List Loc} {av : List Value} (hE : zE G s) (hO : zO s) (hW : zW G n ρ σ H) (hS : va_S (zA G) s.heap H locs) : ∀ U : State, U.heap = H → s.WarmedH U.vm → zPx G n ρ σ av av.toArray U := by
  intro U hU hw
  obtain ⟨h1, h2, h3⟩ := zPc_U (av := av) hE hW hS U hU hw
  exact ⟨h1, h2, h3, zO_warm hO hw⟩
theorem zMc_of {l : Launch} {y : MethodName} {cc : ByteArray} {maxL : Nat} {d : Nat} {G : Zg} {n n' mc ms : Nat} {ρ ρ' : Zp} {σ : Zm} {av : List Value} {res : Int × Zm} {ex : Zr} (hex : ex = some res) (hy : plainFor y = true) (hyn : y.name = "<init>") (hlen : (lg_sl av).length ≤ maxL) {lv : List (Nat × Value)} (hlv : lv_args 0 av = lv)
    (body : ∀ (p : Program) (e : Env) (s : State) (m : MethodId) (below : List Frame) (meth : Method) (c : Code), zC G p s m av.toArray meth c cc maxL y.cls none → zO s → meth.name = "<init>" → zR G p l e (zrc d mc ms) s m av.toArray below meth c maxL 0 0 (MQ below (zQc G n' ρ' none res.2) av.toArray s mc ms (zA G)) n ρ res σ ex lv 0 []) : zMc l y cc maxL d G n ρ σ av n' ρ' res.2 mc ms := by
  refine zMet_ofW (cc := cc) (maxL := maxL) (ret := none) hy rfl ?_
  intro p e s m args below meth c s₁ B hml hv
  obtain ⟨rfl, hW, hE, hO⟩ := hv
  have hts := atoms_spec (ws := Cond.code y cc maxL none :: ztb) B.pre
  have hown : s.vm.findClass y.cls = some m.cls := findClass_of_methodNamed B.named
  have hin : meth.name = "<init>" := by rw [(name_of_methodNamed B.named B.method).1, hyn]
  have hl := lv_entry av (n := maxL) hlen
  rw [lg_entry_eq]
  rw [hlv] at hl
  exact body p e s m below meth c ⟨B.exec, B.bytes, hml, hown, fun w hw => hts w (List.mem_cons_of_mem _ hw), hE, B.returns, B.notSynchronized⟩ hO hin hex _ s.heap [] hl hW va_S.rf
theorem zr_cret (C : zC G p s m args meth c cc nL own none) {mc ms : Nat} (h1 : cells ≤ mc) (h2 : slots ≤ ms) (d : zD cc pc .return_ 1 q) : zR G p l e R s m args below meth c nL cells slots (MQ below (zQc G n ρ none res.2) args s mc ms (zA G)) n ρ res σ (some (0, σ)) lv pc [] := by
  obtain ⟨d1, rfl⟩ := d
  intro he ls H locs hl hW hS
  cases he
  refine W.widen h1 h2 ?_
  exact W.vret C.1 C.2.1 C.2.2.2.2.2.2.1 (zQ_ret hW hS) hS.2.2 d1 C.2.2.2.2.2.2.2
theorem zr_init (C : zC G p s m args meth c cc nL own ret) (hO : zO s) {y : MethodName} {b : ByteArray} {mL np ix dp mc ms o n' : Nat} {ρ' : Zp} {fe : Zr} (As : List Value) {F : Zm → Zr} (Y : zY y b mL none np) (Yi : Cond.instanceMethod y ∈ ztb) (hyn : y.name = "<init>") (L : zL own ix y) (hR : (dp + 1 ≤ R.frames ∧ 8 + (mL + 11) + 40 * dp ≤ R.locals) ∧ cells + mc ≤ R.cells ∧ slots + ms ≤ R.slots) (hM : ∀ r : Int × Zm, fe = some r → zMc l y b mL dp G n ρ σ (.ref (zad G o) :: As) n' ρ' r.2 mc ms) (hn : As.length = np) (hst : st = As.reverse ++ .ref (zad G o) :: rest) (hsum : (rest.map fun v => v.category).sum ≤ 8) (d : zD cc pc (.invokespecial ix) 3 q) (k : ∀ σ', zR G p l e R s m args below meth c nL (cells + mc) (slots + ms) Q n' ρ' res σ' (F σ') lv q rest) : zR G p l e R s m args below meth c nL cells slots Q n ρ res σ (zbv fe F) lv pc st := by
  obtain ⟨d1, rfl⟩ := d
  intro he ls H locs hl hW hS
  match fe with
  | none => cases he
  | some r =>
    subst hst
    have hts := C.2.2.2.2.1
    have hp : PreS s H (zPx G n ρ σ (.ref (zad G o) :: As)) (.ref (zad G o) :: As) := ⟨zPx_blind, zPx_U C.2.2.2.2.2.1 hO hW hS⟩
    obtain ⟨⟨y1, y2⟩, y3, y4⟩ := Y
    have hlen : ∀ sig, parseMethodDescriptor y.desc = some sig → np = sig.parameters.length := fun sig h => by
      rw [h] at y4
      exact (Option.some.inj y4).symm
    have fin : ∀ (H1 : Heap) (locs1 : List Loc), zW G n' ρ' r.2 H1 → va_S (zA G) s.heap H1 locs1 → W p l e R s m args below meth c H1 locs1 (cells + mc) (slots + ms) Q (F0 m (pc + 3) ls ((none : Option Value).toList ++ rest)) := fun H1 locs1 hW1 hS1 => k r.2 he ls H1 locs1 hl hW1 hS1
    rcases L with L | ⟨host, L⟩
    · exact zgo (va_runI ⟨C.1, C.2.1, C.2.2.1, C.2.2.2.1, hts⟩ (hM r rfl) ⟨⟨rfl, rfl, hR.1.1, hR.1.2, zcw hts y1, List.mem_cons_self, hts _ y1, hts _ y2, y3, hlen, hts _ L⟩, hyn, hts _ Yi⟩ hp rfl hn hl.1 rfl (lv_room hsum) d1 hR.2) hS fin
    · exact zgo (va_runIN ⟨C.1, C.2.1, C.2.2.1, C.2.2.2.1, hts⟩ (hM r rfl) ⟨⟨⟨rfl, rfl, hR.1.1, hR.1.2, zcw hts y1, List.mem_cons_self⟩, hts _ y1, hts _ y2, y3, hlen, va_Nw.use (znst_on L) (C.2.2.2.2.2.1.2.1 _ L)⟩, hyn, hts _ Yi⟩ hp rfl hn hl.1 rfl (lv_room hsum) d1 hR.2) hS fin
end ZCTOR

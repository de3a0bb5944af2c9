/-! MY OWN: returns and calls -/
section ZCALLS
variable {G : Zg} {p : Program} {l : Launch} {e : Env} {R : Room} {s : State} {m : MethodId} {args : Array Value} {below : List Frame} {meth : Method} {c : Code} {cc : ByteArray} {nL cells slots : Nat} {own : String} {ret : Option FieldType} {Q : State → Prop} {n : Nat} {ρ : Zp} {res : Int × Zm} {σ : Zm} {ex : Zr} {lv : List (Nat × Value)} {pc q : Nat} {st rest : List Value}
theorem W.zret2 {H : Heap} {locs : List Loc} {Qc : Array Value → State → Outcome → State → Prop} {free : Addr → Prop} {v v' : Int32} {ty : FieldType} (hexec : p.tables.exec = Jvm.exec) (hb : c.code = cc) (hr : meth.sig.returnType = some ty) (hn : narrow ty (.int v) = .int v')
    (hq : ∀ t : State, t.heap = H → s.WarmedH t.vm → Qc args s (.returned (some (.int v'))) t) (hf : ∀ q ∈ locs, free q.base)
    {ls : Array Slot} (hdg : decode cc pc = .ok (.ireturn, 1)) (hlocks : meth.locks = false) : W p l e R s m args below meth c H locs cells slots (MQ below Qc args s cells slots free) (F0 m pc ls [.int v]) := by
  intro T hT X
  obtain ⟨fs, hret, hrun, hended, hW, hframe⟩ := X.leave (v := some (.int v')) (fun h => by rw [hr] at h; cases h)
  have hmeth' : T.vm.method? m = some meth := X.method'
  refine ⟨T.setFrames fs, ?_, .returned (some (.int v')), hrun, hended, hq _ hT hW, locs, ⟨⟨_, rfl⟩, hW, hframe⟩, hf⟩
  jvm_step X.here [X.here.top, hexec, hb, hdg, hmeth', hr, hn]
  (try refine ⟨rfl, ?_⟩); (try refine ⟨rfl, ?_⟩)
  first | (intro acts; rw [hret _ acts rfl rfl rfl]) | rw [hret _ _ rfl rfl rfl]
  exact Steps.refl _
theorem zQ_ret {H : Heap} {locs : List Loc} {ov : Option Value} (hW : zW G n ρ σ H) (hS : va_S (zA G) s.heap H locs) : ∀ t : State, t.heap = H → s.WarmedH t.vm → zQc G n ρ ov σ args s (.returned ov) t := by
  intro t ht _
  refine ⟨rfl, by rw [ht]; exact hW, ?_⟩
  unfold va_F
  rw [ht]
  exact ⟨hS.1, hS.2.1⟩
theorem zr_iret (C : zC G p s m args meth c cc nL own (some .int)) {a : Int} (d : zD cc pc .ireturn 1 q) : zR G p l e R s m args below meth c nL 0 0 (zQm below args s G n ρ (some (.int (zI res.1))) res.2) n ρ res σ (some (a, σ)) lv pc [.int (zI a)] := by
  obtain ⟨d1, rfl⟩ := d
  intro he ls H locs hl hW hS
  cases he
  exact W.iret C.1 C.2.1 C.2.2.2.2.2.2.1 (zQ_ret hW hS) hS.2.2 d1 C.2.2.2.2.2.2.2
theorem zr_zret (C : zC G p s m args meth c cc nL own (some .boolean)) {a : Int} (d : zD cc pc .ireturn 1 q) (ha : a = 0 ∨ a = 1) : zR G p l e R s m args below meth c nL 0 0 (zQm below args s G n ρ (some (.int (zI res.1))) res.2) n ρ res σ (some (a, σ)) lv pc [.int (zI a)] := by
  obtain ⟨d1, rfl⟩ := d
  intro he ls H locs hl hW hS
  have hn : narrow .boolean (.int (zI a)) = .int (zI a) := by rcases ha with rfl | rfl <;> rfl
  cases he
  exact W.zret C.1 C.2.1 C.2.2.2.2.2.2.1 hn (zQ_ret hW hS) hS.2.2 d1 C.2.2.2.2.2.2.2
theorem zr_zretg (C : zC G p s m args meth c cc nL own (some .boolean)) {a : Int} (d : zD cc pc .ireturn 1 q) : zR G p l e R s m args below meth c nL 0 0 (zQm below args s G n ρ (some (.int (zI res.1))) res.2) n ρ res σ (some (zb a, σ)) lv pc [.int (zI a)] := by
  obtain ⟨d1, rfl⟩ := d
  intro he ls H locs hl hW hS
  cases he
  exact W.zret2 C.1 C.2.1 C.2.2.2.2.2.2.1 (show narrow .boolean (.int (zI a)) = .int (zI (zb a)) by rw [zb, zI_t]; rfl) (zQ_ret hW hS) hS.2.2 d1 C.2.2.2.2.2.2.2
theorem zr_lret (C : zC G p s m args meth c cc nL own (some .long)) {a : Int} (d : zD cc pc .lreturn 1 q) : zR G p l e R s m args below meth c nL 0 0 (zQm below args s G n ρ (some (.long (zJ res.1))) res.2) n ρ res σ (some (a, σ)) lv pc [.long (zJ a)] := by
  obtain ⟨d1, rfl⟩ := d
  intro he ls H locs hl hW hS
  cases he
  exact W.lret C.1 C.2.1 C.2.2.2.2.2.2.1 (zQ_ret hW hS) hS.2.2 d1 C.2.2.2.2.2.2.2
theorem zr_vret (C : zC G p s m args meth c cc nL own none) (d : zD cc pc .return_ 1 q) : zR G p l e R s m args below meth c nL 0 0 (zQm below args s G n ρ none res.2) n ρ res σ (some (0, σ)) lv pc [] := by
  obtain ⟨d1, rfl⟩ := d
  intro he ls H locs hl hW hS
  cases he
  exact W.vret C.1 C.2.1 C.2.2.2.2.2.2.1 (zQ_ret hW hS) hS.2.2 d1 C.2.2.2.2.2.2.2
-- what a callee wants of the tables
def zY (y : MethodName) (b : ByteArray) (mL : Nat) (rt : Option FieldType) (np : Nat) : Prop := (Cond.code y b mL rt ∈ ztb ∧ Cond.initialized y.cls ∈ ztb) ∧ (y.cls ≠ "java/lang/invoke/MethodHandle" ∧ y.cls ≠ "java/lang/invoke/VarHandle") ∧ (parseMethodDescriptor y.desc).map (fun d => d.parameters.length) = some np
def zYv (y : MethodName) : Prop := Cond.instanceMethod y ∈ ztb ∧ Cond.selects y.cls y y ∈ ztb
def zL (own : String) (ix : Nat) (y : MethodName) : Prop := Cond.methodLink own ix y ∈ ztb ∨ ∃ host, Cond.methodLinkNest own ix y host ∈ znst
def zRm (R : Room) (cells slots mL dp : Nat) : Prop := (dp + 1 ≤ R.frames ∧ 8 + (mL + 11) + 40 * dp ≤ R.locals) ∧ cells ≤ R.cells ∧ slots ≤ R.slots
theorem zcw {y : MethodName} {b : ByteArray} {mL : Nat} {rt : Option FieldType} (hts : ∀ w ∈ ztb, w.before args s = true) (hc : Cond.code y b mL rt ∈ ztb) : ∀ w ∈ (Cond.code y b mL rt :: ztb), ∀ (a' : Array Value) (U : State), s.WarmedH U.vm → w.before a' U = true :=
  pay_in hts (fun w hw => by
    rcases List.mem_cons.mp hw with rfl | h
    · exact ⟨hc, zgood _ hc⟩
    · exact ⟨h, zgood _ h⟩)
theorem zcb {y : MethodName} {b : ByteArray} {mL np ix dp : Nat} {rt : Option FieldType} (hts : ∀ w ∈ ztb, w.before args s = true) (Y : zY y b mL rt np) (L : Cond.methodLink own ix y ∈ ztb) (hR : zRm R cells slots mL dp) : CallB R s args own ix y b mL rt (Cond.code y b mL rt :: ztb) (zrm dp) 0 0 np := by
  obtain ⟨⟨y1, y2⟩, y3, y4⟩ := Y
  refine ⟨rfl, rfl, hR.1.1, hR.1.2, zcw hts y1, List.mem_cons_self, hts _ y1, hts _ y2, y3, fun sig h => ?_, hts _ L⟩
  rw [h] at y4
  exact (Option.some.inj y4).symm
theorem zcn {y : MethodName} {b : ByteArray} {mL np ix dp : Nat} {rt : Option FieldType} {host : String} (hts : ∀ w ∈ ztb, w.before args s = true) (Y : zY y b mL rt np) (L : (Cond.methodLinkNest own ix y host).before args s = true) (hR : zRm R cells slots mL dp) : va_CN R s args own ix y host b mL rt (Cond.code y b mL rt :: ztb) (zrm dp) 0 0 np := by
  obtain ⟨⟨y1, y2⟩, y3, y4⟩ := Y
  refine ⟨⟨rfl, rfl, hR.1.1, hR.1.2, zcw hts y1, List.mem_cons_self⟩, hts _ y1, hts _ y2, y3, fun sig h => ?_, L⟩
  rw [h] at y4
  exact (Option.some.inj y4).symm
theorem zPc_blind {av : List Value} : FrameBlind (zPc G n ρ σ av) := fun a U g mk h => ⟨h.1, h.2.1, zE_call h.2.2 g mk a⟩
theorem zPc_U {H : Heap} {locs : List Loc} {av : List Value} (hE : zE G s) (hW : zW G n ρ σ H) (hS : va_S (zA G) s.heap H locs) : ∀ U : State, U.heap = H → s.WarmedH U.vm → zPc G n ρ σ av av.toArray U := by
  intro U hU hw
  refine ⟨rfl, by rw [hU]; exact hW, zE_warm hE hw (fun a h1 h2 => by rw [hU]; exact hS.2.1 a h1 h2)⟩
theorem zgo {H : Heap} {locs : List Loc} {ls : Array Slot} {ov : Option Value} {σ1 : Zm} {a : Array Value} {n1 : Nat} {ρ1 : Zp} {st0 : List Value} {mc ms : Nat} (hr : va_Run p l e R s m args below meth c H locs cells slots mc ms (F0 m pc ls st0) rest (zQc G n1 ρ1 ov σ1 a) (zA G)) (hS : va_S (zA G) s.heap H locs)
    (kk : ∀ (H1 : Heap) (locs1 : List Loc), zW G n1 ρ1 σ1 H1 → va_S (zA G) s.heap H1 locs1 → W p l e R s m args below meth c H1 locs1 (cells + mc) (slots + ms) Q (F0 m (pc + 3) ls (ov.toList ++ rest))) : W p l e R s m args below meth c H locs cells slots Q (F0 m pc ls st0) := by
  intro T hT X
  obtain ⟨v, st₀, t, T', L, h0, X', hL, e1, e2, ⟨hv, hw, hz, hk⟩, st⟩ := hr T hT X
  cases hv
  rw [h0] at hz hk
  obtain ⟨t2, a1, b1⟩ := kk T'.heap (locs ++ L) (by rw [e1]; exact hw)
    ⟨Nat.le_trans hS.1 (by rw [e1]; exact hz), fun q h1 h2 => by rw [e1, hk q (Nat.lt_of_lt_of_le h1 hS.1) h2]; exact hS.2.1 q h1 h2, fun q hq => by
      rcases List.mem_append.mp hq with h | h
      · exact hS.2.2 q h
      · exact hL q h⟩ T' rfl X'
  exact ⟨t2, st t2 a1, b1⟩
theorem zcallV (C : zC G p s m args meth c cc nL own ret) {y : MethodName} {b : ByteArray} {mL np ix dp o ci : Nat} {rt : Option FieldType} {As : List Value} {ov : Option Value} {σ1 : Zm} {H : Heap} {locs : List Loc} {ls : Array Slot} (Y : zY y b mL rt np) (Yv : zYv y) (L : zL own ix y) (hR : zRm R cells slots mL dp) (hi : zin n o ci) (hc : ci < 11) (hcl : zCn ci = y.cls) (hM : zM l y b mL rt dp G n ρ σ (.ref (zad G o) :: As) ov σ1) (hn : As.length = np) (hst : st = As.reverse ++ .ref (zad G o) :: rest) (hsum : (rest.map fun v => v.category).sum ≤ 8) (d : decode cc pc = .ok (.invokevirtual ix, 3)) (hl : lv_has ls nL lv) (hW : zW G n ρ σ H) (hS : va_S (zA G) s.heap H locs)
    (kk : ∀ (H1 : Heap) (locs1 : List Loc), zW G n ρ σ1 H1 → va_S (zA G) s.heap H1 locs1 → W p l e R s m args below meth c H1 locs1 cells slots Q (F0 m (pc + 3) ls (ov.toList ++ rest))) : W p l e R s m args below meth c H locs cells slots Q (F0 m pc ls st) := by
  subst hst
  have hts := C.2.2.2.2.1
  have hat := hW.2 o hi.2
  rw [zc1_obj hi.1 hc] at hat
  have hrec := va_recv (q0 := 0) C.2.2.2.2.2.1.1 (zP1 hat) (zcl_at hc) rfl
  dsimp only at hrec
  rw [hcl] at hrec
  have hp : PreV s H y.cls (zad G o) (zPc G n ρ σ (.ref (zad G o) :: As)) As := ⟨zPc_blind, hrec, zPc_U C.2.2.2.2.2.1 hW hS⟩
  rcases L with L | ⟨host, L⟩
  · exact zgo (va_runV ⟨C.1, C.2.1, C.2.2.1, C.2.2.2.1, hts⟩ hM ⟨zcb hts Y L hR, hts _ Yv.1, hts _ Yv.2⟩ hp rfl hn hl.1 rfl (lv_room hsum) d ⟨hR.2.1, hR.2.2⟩) hS kk
  · exact zgo (va_runVN ⟨C.1, C.2.1, C.2.2.1, C.2.2.2.1, hts⟩ hM ⟨zcn hts Y (va_Nw.use (znst_on L) (C.2.2.2.2.2.1.2.1 _ L)) hR, hts _ Yv.1, hts _ Yv.2⟩ hp rfl hn hl.1 rfl (lv_room hsum) d ⟨hR.2.1, hR.2.2⟩) hS kk
theorem zcallS (C : zC G p s m args meth c cc nL own ret) {y : MethodName} {b : ByteArray} {mL np ix dp : Nat} {rt : Option FieldType} {As : List Value} {ov : Option Value} {σ1 : Zm} {H : Heap} {locs : List Loc} {ls : Array Slot} (Y : zY y b mL rt np) (Ys : Cond.static y ∈ ztb) (L : zL own ix y) (hR : zRm R cells slots mL dp) (hM : zM l y b mL rt dp G n ρ σ As ov σ1) (hn : As.length = np) (hst : st = As.reverse ++ rest) (hsum : (rest.map fun v => v.category).sum ≤ 8) (d : decode cc pc = .ok (.invokestatic ix, 3)) (hl : lv_has ls nL lv) (hW : zW G n ρ σ H) (hS : va_S (zA G) s.heap H locs)
    (kk : ∀ (H1 : Heap) (locs1 : List Loc), zW G n ρ σ1 H1 → va_S (zA G) s.heap H1 locs1 → W p l e R s m args below meth c H1 locs1 cells slots Q (F0 m (pc + 3) ls (ov.toList ++ rest))) : W p l e R s m args below meth c H locs cells slots Q (F0 m pc ls st) := by
  subst hst
  have hts := C.2.2.2.2.1
  have hp : PreS s H (zPc G n ρ σ As) As := ⟨zPc_blind, zPc_U C.2.2.2.2.2.1 hW hS⟩
  rcases L with L | ⟨host, L⟩
  · exact zgo (va_runS ⟨C.1, C.2.1, C.2.2.1, C.2.2.2.1, hts⟩ hM ⟨zcb hts Y L hR, hts _ Ys⟩ hp rfl hn hl.1 rfl (lv_room hsum) d ⟨hR.2.1, hR.2.2⟩) hS kk
  · exact zgo (va_runSN ⟨C.1, C.2.1, C.2.2.1, C.2.2.2.1, hts⟩ hM ⟨zcn hts Y (va_Nw.use (znst_on L) (C.2.2.2.2.2.1.2.1 _ L)) hR, hts _ Ys, trivial⟩ hp rfl hn hl.1 rfl (lv_room hsum) d ⟨hR.2.1, hR.2.2⟩) hS kk
theorem zr_callVi (C : zC G p s m args meth c cc nL own ret) {y : MethodName} {b : ByteArray} {mL np ix dp o ci : Nat} {rt : Option FieldType} {fe : Zr} (As : List Value) {F : Int → Zm → Zr} (Y : zY y b mL rt np) (Yv : zYv y) (L : zL own ix y) (hR : zRm R cells slots mL dp) (hi : zin n o ci) (hc : ci < 11) (hcl : zCn ci = y.cls) (hM : ∀ r : Int × Zm, fe = some r → zM l y b mL rt dp G n ρ σ (.ref (zad G o) :: As) (some (.int (zI r.1))) r.2) (hn : As.length = np) (hst : st = As.reverse ++ .ref (zad G o) :: rest) (hsum : (rest.map fun v => v.category).sum ≤ 8) (d : zD cc pc (.invokevirtual ix) 3 q) (k : ∀ v, zw v = v → ∀ σ', zR G p l e R s m args below meth c nL cells slots Q n ρ res σ' (F v σ') lv q (.int (zI v) :: rest)) : zR G p l e R s m args below meth c nL cells slots Q n ρ res σ (zbi fe F) lv pc st := by
  obtain ⟨d1, rfl⟩ := d
  intro he ls H locs hl hW hS
  match fe with
  | none => cases he
  | some r =>
    exact zcallV C Y Yv L hR hi hc hcl (hM r rfl) hn hst hsum d1 hl hW hS (fun H1 locs1 hW1 hS1 => by
      have h9 := k (zw r.1) (zw_w _) r.2 he ls H1 locs1 hl hW1 hS1
      rw [zI_w] at h9
      exact h9)
theorem zr_callVl (C : zC G p s m args meth c cc nL own ret) {y : MethodName} {b : ByteArray} {mL np ix dp o ci : Nat} {rt : Option FieldType} {fe : Zr} (As : List Value) {F : Int → Zm → Zr} (Y : zY y b mL rt np) (Yv : zYv y) (L : zL own ix y) (hR : zRm R cells slots mL dp) (hi : zin n o ci) (hc : ci < 11) (hcl : zCn ci = y.cls) (hM : ∀ r : Int × Zm, fe = some r → zM l y b mL rt dp G n ρ σ (.ref (zad G o) :: As) (some (.long (zJ r.1))) r.2) (hn : As.length = np) (hst : st = As.reverse ++ .ref (zad G o) :: rest) (hsum : (rest.map fun v => v.category).sum ≤ 8) (d : zD cc pc (.invokevirtual ix) 3 q) (k : ∀ v, zx v = v → ∀ σ', zR G p l e R s m args below meth c nL cells slots Q n ρ res σ' (F v σ') lv q (.long (zJ v) :: rest)) : zR G p l e R s m args below meth c nL cells slots Q n ρ res σ (zbl fe F) lv pc st := by
  obtain ⟨d1, rfl⟩ := d
  intro he ls H locs hl hW hS
  match fe with
  | none => cases he
  | some r =>
    exact zcallV C Y Yv L hR hi hc hcl (hM r rfl) hn hst hsum d1 hl hW hS (fun H1 locs1 hW1 hS1 => by
      have h9 := k (zx r.1) (zx_x _) r.2 he ls H1 locs1 hl hW1 hS1
      rw [zJ_x] at h9
      exact h9)
theorem zr_callVv (C : zC G p s m args meth c cc nL own ret) {y : MethodName} {b : ByteArray} {mL np ix dp o ci : Nat} {rt : Option FieldType} {fe : Zr} (As : List Value) {F : Zm → Zr} (Y : zY y b mL rt np) (Yv : zYv y) (L : zL own ix y) (hR : zRm R cells slots mL dp) (hi : zin n o ci) (hc : ci < 11) (hcl : zCn ci = y.cls) (hM : ∀ r : Int × Zm, fe = some r → zM l y b mL rt dp G n ρ σ (.ref (zad G o) :: As) (none) r.2) (hn : As.length = np) (hst : st = As.reverse ++ .ref (zad G o) :: rest) (hsum : (rest.map fun v => v.category).sum ≤ 8) (d : zD cc pc (.invokevirtual ix) 3 q) (k : ∀ σ', zR G p l e R s m args below meth c nL cells slots Q n ρ res σ' (F σ') lv q rest) : zR G p l e R s m args below meth c nL cells slots Q n ρ res σ (zbv fe F) lv pc st := by
  obtain ⟨d1, rfl⟩ := d
  intro he ls H locs hl hW hS
  match fe with
  | none => cases he
  | some r =>
    exact zcallV C Y Yv L hR hi hc hcl (hM r rfl) hn hst hsum d1 hl hW hS (fun H1 locs1 hW1 hS1 => k r.2 he ls H1 locs1 hl hW1 hS1)
theorem zr_callSi (C : zC G p s m args meth c cc nL own ret) {y : MethodName} {b : ByteArray} {mL np ix dp : Nat} {rt : Option FieldType} {fe : Zr} (As : List Value) {F : Int → Zm → Zr} (Y : zY y b mL rt np) (Ys : Cond.static y ∈ ztb) (L : zL own ix y) (hR : zRm R cells slots mL dp) (hM : ∀ r : Int × Zm, fe = some r → zM l y b mL rt dp G n ρ σ As (some (.int (zI r.1))) r.2) (hn : As.length = np) (hst : st = As.reverse ++ rest) (hsum : (rest.map fun v => v.category).sum ≤ 8) (d : zD cc pc (.invokestatic ix) 3 q) (k : ∀ v, zw v = v → ∀ σ', zR G p l e R s m args below meth c nL cells slots Q n ρ res σ' (F v σ') lv q (.int (zI v) :: rest)) : zR G p l e R s m args below meth c nL cells slots Q n ρ res σ (zbi fe F) lv pc st := by
  obtain ⟨d1, rfl⟩ := d
  intro he ls H locs hl hW hS
  match fe with
  | none => cases he
  | some r =>
    exact zcallS C Y Ys L hR (hM r rfl) hn hst hsum d1 hl hW hS (fun H1 locs1 hW1 hS1 => by
      have h9 := k (zw r.1) (zw_w _) r.2 he ls H1 locs1 hl hW1 hS1
      rw [zI_w] at h9
      exact h9)
theorem zr_callSl (C : zC G p s m args meth c cc nL own ret) {y : MethodName} {b : ByteArray} {mL np ix dp : Nat} {rt : Option FieldType} {fe : Zr} (As : List Value) {F : Int → Zm → Zr} (Y : zY y b mL rt np) (Ys : Cond.static y ∈ ztb) (L : zL own ix y) (hR : zRm R cells slots mL dp) (hM : ∀ r : Int × Zm, fe = some r → zM l y b mL rt dp G n ρ σ As (some (.long (zJ r.1))) r.2) (hn : As.length = np) (hst : st = As.reverse ++ rest) (hsum : (rest.map fun v => v.category).sum ≤ 8) (d : zD cc pc (.invokestatic ix) 3 q) (k : ∀ v, zx v = v → ∀ σ', zR G p l e R s m args below meth c nL cells slots Q n ρ res σ' (F v σ') lv q (.long (zJ v) :: rest)) : zR G p l e R s m args below meth c nL cells slots Q n ρ res σ (zbl fe F) lv pc st := by
  obtain ⟨d1, rfl⟩ := d
  intro he ls H locs hl hW hS
  match fe with
  | none => cases he
  | some r =>
    exact zcallS C Y Ys L hR (hM r rfl) hn hst hsum d1 hl hW hS (fun H1 locs1 hW1 hS1 => by
      have h9 := k (zx r.1) (zx_x _) r.2 he ls H1 locs1 hl hW1 hS1
      rw [zJ_x] at h9
      exact h9)
theorem zr_callSv (C : zC G p s m args meth c cc nL own ret) {y : MethodName} {b : ByteArray} {mL np ix dp : Nat} {rt : Option FieldType} {fe : Zr} (As : List Value) {F : Zm → Zr} (Y : zY y b mL rt np) (Ys : Cond.static y ∈ ztb) (L : zL own ix y) (hR : zRm R cells slots mL dp) (hM : ∀ r : Int × Zm, fe = some r → zM l y b mL rt dp G n ρ σ As (none) r.2) (hn : As.length = np) (hst : st = As.reverse ++ rest) (hsum : (rest.map fun v => v.category).sum ≤ 8) (d : zD cc pc (.invokestatic ix) 3 q) (k : ∀ σ', zR G p l e R s m args below meth c nL cells slots Q n ρ res σ' (F σ') lv q rest) : zR G p l e R s m args below meth c nL cells slots Q n ρ res σ (zbv fe F) lv pc st := by
  obtain ⟨d1, rfl⟩ := d
  intro he ls H locs hl hW hS
  match fe with
  | none => cases he
  | some r =>
    exact zcallS C Y Ys L hR (hM r rfl) hn hst hsum d1 hl hW hS (fun H1 locs1 hW1 hS1 => k r.2 he ls H1 locs1 hl hW1 hS1)
theorem zr_mmax (C : zC G p s m args meth c cc nL own ret) {a b A B : Int} {ix : Nat} {F : Int → Zr} (L : Cond.methodLink own ix Lib.Math.max.name ∈ ztb) (Y : Cond.static Lib.Math.max.name ∈ ztb ∧ Cond.initialized "java/lang/Math" ∈ ztb ∧ Cond.code Lib.Math.max.name Lib.Math.max.code 2 (some .int) ∈ ztb) (hR : zRm R cells slots 2 0) (hsum : (rest.map fun v => v.category).sum ≤ 8) (ha : zw a = A) (hb : zw b = B) (d : zD cc pc (.invokestatic ix) 3 q) (k : ∀ v, zw v = v → zR G p l e R s m args below meth c nL cells slots Q n ρ res σ (F v) lv q (.int (zI v) :: rest)) : zR G p l e R s m args below meth c nL cells slots Q n ρ res σ (zlet (max A B) F) lv pc (.int (zI b) :: .int (zI a) :: rest) := by
  obtain ⟨d1, rfl⟩ := d
  subst ha hb
  intro he ls H locs hl hW hS
  have hts := C.2.2.2.2.1
  have hR' := hR.1.2
  refine va_mmax C.1 C.2.1 (C.2.2.1.trans hl.1.symm) C.2.2.2.1 (hts _ L) (hts _ Y.1) (hts _ Y.2.1) (hts _ Y.2.2) (by have := hR.1.1; omega) (by omega) hR.2.1 hR.2.2 d1 ?_
  have e1 : (if zI a < zI b then zI b else zI a) = zI (max (zw a) (zw b)) := by
    by_cases h : zw a < zw b
    · rw [if_pos (zI_lt.mpr h), Int.max_eq_right (Int.le_of_lt h), zI_w]
    · rw [if_neg (fun z => h (zI_lt.mp z)), Int.max_eq_left (Int.not_lt.mp h), zI_w]
  rw [e1]
  exact k _ (by rcases Int.le_total (zw a) (zw b) with h | h; rw [Int.max_eq_right h, zw_w]; rw [Int.max_eq_left h, zw_w]) he ls H locs hl hW hS
theorem zr_mmin (C : zC G p s m args meth c cc nL own ret) {a b A B : Int} {ix : Nat} {F : Int → Zr} (L : Cond.methodLink own ix Lib.Math.min.name ∈ ztb) (Y : Cond.static Lib.Math.min.name ∈ ztb ∧ Cond.initialized "java/lang/Math" ∈ ztb ∧ Cond.code Lib.Math.min.name Lib.Math.min.code 2 (some .int) ∈ ztb) (hR : zRm R cells slots 2 0) (hsum : (rest.map fun v => v.category).sum ≤ 8) (ha : zw a = A) (hb : zw b = B) (d : zD cc pc (.invokestatic ix) 3 q) (k : ∀ v, zw v = v → zR G p l e R s m args below meth c nL cells slots Q n ρ res σ (F v) lv q (.int (zI v) :: rest)) : zR G p l e R s m args below meth c nL cells slots Q n ρ res σ (zlet (min A B) F) lv pc (.int (zI b) :: .int (zI a) :: rest) := by
  obtain ⟨d1, rfl⟩ := d
  subst ha hb
  intro he ls H locs hl hW hS
  have hts := C.2.2.2.2.1
  have hR' := hR.1.2
  refine va_mmin C.1 C.2.1 (C.2.2.1.trans hl.1.symm) C.2.2.2.1 (hts _ L) (hts _ Y.1) (hts _ Y.2.1) (hts _ Y.2.2) (by have := hR.1.1; omega) (by omega) hR.2.1 hR.2.2 d1 ?_
  have e1 : (if zI b < zI a then zI b else zI a) = zI (min (zw a) (zw b)) := by
    by_cases h : zw b < zw a
    · rw [if_pos (zI_lt.mpr h), Int.min_eq_right (Int.le_of_lt h), zI_w]
    · rw [if_neg (fun z => h (zI_lt.mp z)), Int.min_eq_left (Int.not_lt.mp h), zI_w]
  rw [e1]
  exact k _ (by rcases Int.le_total (zw a) (zw b) with h | h; rw [Int.min_eq_left h, zw_w]; rw [Int.min_eq_right h, zw_w]) he ls H locs hl hW hS
theorem zr_mabs (C : zC G p s m args meth c cc nL own ret) {a A : Int} {ix : Nat} {F : Int → Zr} (L : Cond.methodLink own ix Lib.Math.abs.name ∈ ztb) (Y : Cond.static Lib.Math.abs.name ∈ ztb ∧ Cond.initialized "java/lang/Math" ∈ ztb ∧ Cond.code Lib.Math.abs.name Lib.Math.abs.code 1 (some .int) ∈ ztb) (hR : zRm R cells slots 2 0) (hsum : (rest.map fun v => v.category).sum ≤ 8) (ha : zw a = A) (d : zD cc pc (.invokestatic ix) 3 q) (k : ∀ v, zw v = v → zR G p l e R s m args below meth c nL cells slots Q n ρ res σ (F v) lv q (.int (zI v) :: rest)) : zR G p l e R s m args below meth c nL cells slots Q n ρ res σ (zlet (zabs A) F) lv pc (.int (zI a) :: rest) := by
  obtain ⟨d1, rfl⟩ := d
  subst ha
  intro he ls H locs hl hW hS
  have hts := C.2.2.2.2.1
  have hR' := hR.1.2
  refine va_mabs C.1 C.2.1 (C.2.2.1.trans hl.1.symm) C.2.2.2.1 (hts _ L) (hts _ Y.1) (hts _ Y.2.1) (hts _ Y.2.2) (by have := hR.1.1; omega) (by omega) hR.2.1 hR.2.2 d1 ?_
  have e1 : (if 0 ≤ zI a then zI a else 0 - zI a) = zI (zabs (zw a)) := by
    have h8 : zI 0 ≤ zI a ↔ zw 0 ≤ zw a := zI_le
    rw [zw_0] at h8
    have h9 : (0 : Int32) ≤ zI a ↔ 0 ≤ zw a := h8
    unfold zabs
    by_cases h : 0 ≤ zw a
    · rw [if_pos h, if_pos (h9.mpr h), zI_w]
    · rw [if_neg h, if_neg (fun z => h (h9.mp z)), zI_w, show (0 : Int32) = zI 0 from rfl, ← zI_neg, zI_w, zI_neg, zI_sub]
      congr 1
      omega
  rw [e1]
  refine k _ ?_ he ls H locs hl hW hS
  unfold zabs
  split
  · exact zw_w _
  · exact zw_w _
theorem zr_acopy (C : zC G p s m args meth c cc nL own ret) {a b na nb ix : Nat} {sp dp k SP DP K : Int} {F : Zm → Zr} (L : Cond.methodLink own ix arraycopyName ∈ ztb) (Y : Cond.native arraycopyName ∈ ztb ∧ Cond.static arraycopyName ∈ ztb ∧ Cond.initialized "java/lang/System" ∈ ztb) (hR : zRm R cells slots 21 0) (hsum : (rest.map fun v => v.category).sum ≤ 8) (ha : zin n a 20) (hb : zin n b 20) (hna : zLN a = na) (hnb : zLN b = nb) (hsp : zw sp = SP) (hdp : zw dp = DP) (hk : zw k = K) (d : zD cc pc (.invokestatic ix) 3 q) (kk : ∀ σ', zR G p l e R s m args below meth c nL cells slots Q n ρ res σ' (F σ') lv q rest) :
    zR G p l e R s m args below meth c nL cells slots Q n ρ res σ (if (0 ≤ SP ∧ 0 ≤ DP ∧ 0 ≤ K) ∧ SP + K ≤ (na : Int) ∧ DP + K ≤ (nb : Int) then zlet (zcp σ a SP.toNat b DP.toNat K.toNat) F else none) lv pc (.int (zI k) :: .int (zI dp) :: .ref (zad G b) :: .int (zI sp) :: .ref (zad G a) :: rest) := by
  obtain ⟨d1, rfl⟩ := d
  subst hna hnb hsp hdp hk
  intro he ls H locs hl hW hS
  by_cases hg : (0 ≤ zw sp ∧ 0 ≤ zw dp ∧ 0 ≤ zw k) ∧ zw sp + zw k ≤ (zLN a : Int) ∧ zw dp + zw k ≤ (zLN b : Int)
  case neg => rw [if_neg hg] at he; cases he
  rw [if_pos hg] at he
  obtain ⟨⟨g1, g2, g3⟩, g4, g5⟩ := hg
  have hts := C.2.2.2.2.1
  have hK := C.2.2.2.2.2.1.1
  have hR' := hR.1.2
  have nn : ∀ z : Int, ¬ zI z < 0 ↔ 0 ≤ zw z := by
    intro z
    have h9 : zI z < zI 0 ↔ zw z < zw 0 := zI_lt
    rw [zw_0] at h9
    rw [show (0 : Int32) = zI 0 from rfl, h9]
    omega
  have h1 := (nn sp).mpr g1
  have h2 := (nn dp).mpr g2
  have h3 := (nn k).mpr g3
  have hca : va_at G.1 zcl (zad G a, zc1 G ρ σ a) H := hW.2 a ha.2
  have hcb : va_at G.1 zcl (zad G b, zc1 G ρ σ b) H := hW.2 b hb.2
  rw [zc1_20 ha.1] at hca
  rw [zc1_20 hb.1] at hcb
  have hc0 : H[zad G a]? = some (vp_cell (G.2.1 0) (zLN a, .inl (σ.1 a))) := hca
  have hc1 : H[zad G b]? = some (vp_cell (G.2.1 0) (zLN b, .inl (σ.1 b))) := hcb
  intro T hT X
  obtain ⟨-, k0, hk0, cm0, hkk0⟩ := (hK.2 0 (G.2.1 0, .int) rfl).1 (zLN a) (fun j => .int (σ.1 a j))
  obtain ⟨-, k1, hk1, cm1, hkk1⟩ := (hK.2 0 (G.2.1 0, .int) rfl).1 (zLN b) (fun j => .int (σ.1 b j))
  obtain ⟨vm', X', step⟩ := X.arraycopy C.1 C.2.2.2.1 (hts _ L) (hts _ Y.1) (hts _ Y.2.1) (hts _ Y.2.2) (src := zad G a) (dst := zad G b) (cs := vp_cell (G.2.1 0) (zLN a, .inl (σ.1 a))) (cd := vp_cell (G.2.1 0) (zLN b, .inl (σ.1 b))) (srcPos := zI sp) (destPos := zI dp) (n := zI k) (by rw [hT]; exact hc0) (by rw [hT]; exact hc1)
    (fun _ h => by cases h) (fun _ h => by cases h) (fun h => by cases h) (fun h => by cases h) hk0 hk1 hkk0 hkk1 rfl h1 h2 h3
    (by rw [zI_i, zI_i]; show ¬ _ > ((arrV (G.2.1 0) (zLN a) (fun j => .int (σ.1 a j))).slots.size : Int); rw [arrV_size]; omega)
    (by rw [zI_i, zI_i]; show ¬ _ > ((arrV (G.2.1 0) (zLN b) (fun j => .int (σ.1 b j))).slots.size : Int); rw [arrV_size]; omega)
    (fun vm₁ _ i hi => by
      have e : (vp_cell (G.2.1 0) (zLN a, .inl (σ.1 a))).slots.getD ((zI sp).toNatClampNeg + i) .null = .int (σ.1 a ((zI sp).toNatClampNeg + i)) := by
        show (arrV (G.2.1 0) (zLN a) (fun j => .int (σ.1 a j))).slots.getD _ _ = _
        rw [zI_cl] at hi
        rw [zI_cl, Array.getD_eq_getD_getElem?, arrV_read _ _ (by omega)]
        rfl
      refine ⟨?_, ?_⟩
      · rw [e]
        rfl
      · rw [e]
        exact trivial)
    (g := F0 m pc ls (.int (zI k) :: .int (zI dp) :: .ref (zad G b) :: .int (zI sp) :: .ref (zad G a) :: rest)) rfl (hl.1.trans C.2.2.1.symm) (rest := rest) rfl (by rw [C.2.1]; exact d1) (by have := hR.1.1; omega) (by show 2 * 0 + _ + _ ≤ _; have h21 : nativeFrameWords "java/lang/System" "arraycopy" 5 ≤ 21 := (by decide); omega)
  have e1 : copied (vp_cell (G.2.1 0) (zLN a, .inl (σ.1 a))) (vp_cell (G.2.1 0) (zLN b, .inl (σ.1 b))) (zI sp) (zI dp) (zI k) = vp_cell (G.2.1 0) (zLN b, .inl (va_cpy (σ.1 a) (σ.1 b) (zI sp).toNatClampNeg (zI dp).toNatClampNeg (zI k).toNatClampNeg)) := va_copied (fun z => .int z) (G.2.1 0) (G.2.1 0) (σ.1 a) (σ.1 b) (by rw [zI_cl, zI_cl]; omega)
  rw [e1] at X' step
  have hlt : zad G b < H.size := (Array.getElem?_eq_some_iff.mp hc1).1
  have hheap : ((T.setVm vm').setCell (zad G b) (vp_cell (G.2.1 0) (zLN b, .inl (va_cpy (σ.1 a) (σ.1 b) (zI sp).toNatClampNeg (zI dp).toNatClampNeg (zI k).toNatClampNeg)))).heap = H.setIfInBounds (zad G b) (vp_cell (G.2.1 0) (zLN b, .inl (va_cpy (σ.1 a) (σ.1 b) (zI sp).toNatClampNeg (zI dp).toNatClampNeg (zI k).toNatClampNeg))) := by rw [← hT]; rfl
  have oq : ∀ q : Nat, q ≠ zad G b → (H.setIfInBounds (zad G b) (vp_cell (G.2.1 0) (zLN b, .inl (va_cpy (σ.1 a) (σ.1 b) (zI sp).toNatClampNeg (zI dp).toNatClampNeg (zI k).toNatClampNeg))))[q]? = H[q]? := fun q hq => by simp [Array.getElem?_setIfInBounds, Ne.symm hq]
  have hat : va_at G.1 zcl (zad G b, zc1 G ρ (zcp σ a (zw sp).toNat b (zw dp).toNat (zw k).toNat) b) (H.setIfInBounds (zad G b) (vp_cell (G.2.1 0) (zLN b, .inl (va_cpy (σ.1 a) (σ.1 b) (zI sp).toNatClampNeg (zI dp).toNatClampNeg (zI k).toNatClampNeg)))) := by
    rw [zc1_20 hb.1]
    show (H.setIfInBounds (zad G b) _)[zad G b]? = some _
    have e2 : va_cpy (σ.1 a) (σ.1 b) (zI sp).toNatClampNeg (zI dp).toNatClampNeg (zI k).toNatClampNeg = (zcp σ a (zw sp).toNat b (zw dp).toNat (zw k).toNat).1 b := by
      funext j
      simp [va_cpy, zcp, zI_cl]
    simp [Array.getElem?_setIfInBounds, hlt, e2]
  obtain ⟨t, a1, b1⟩ := kk _ he ls _ _ hl (hW.upd (o := b) (by simp) oq hat (fun p hp => by
      unfold zc1 zcp
      dsimp only
      congr 1
      funext j
      rw [if_neg (fun z => hp z.1)])) ⟨by simp; exact hS.1, fun q g1 g2 => by
      rw [oq q (fun e => g2 (by rw [e]; exact zad_A G b))]
      exact hS.2.1 q g1 g2, fun q hq => by
      rcases List.mem_append.mp hq with h | h
      · exact hS.2.2 q h
      · obtain ⟨z, -, hz⟩ := List.mem_map.mp h
        rw [← hz]
        exact zad_A G b⟩ _ hheap X'
  exact ⟨t, step t a1, b1⟩
theorem zr_alen (C : zC G p s m args meth c cc nL own ret) {o sh N : Nat} (hi : zin n o sh) (hsh : 20 ≤ sh ∧ sh < 26) (hN : zLN o = N) {A : Int} (hA : ((N : Nat) : Int) = A) (d : zD cc pc .arraylength 1 q) (k : zR G p l e R s m args below meth c nL cells slots Q n ρ res σ ex lv q (.int (zI A) :: st)) : zR G p l e R s m args below meth c nL cells slots Q n ρ res σ ex lv pc (.ref (zad G o) :: st) := by
  obtain ⟨d1, rfl⟩ := d
  subst hA hN
  intro he ls H locs hl hW hS
  have hat := hW.2 o hi.2
  have hx : ∃ (j : Nat) (ty : FieldType) (x : (Nat → Int32) ⊕ (Nat → Int64) ⊕ (Nat → UInt32) ⊕ (Nat → UInt64) ⊕ (Nat → Option Nat)), j < 6 ∧ (ztys G)[j]? = some (G.2.1 j, ty) ∧ zc1 G ρ σ o = .inl (G.2.1 j, zLN o, x) := by
    have hs : 20 ≤ zSH o ∧ zSH o < 26 := by rw [hi.1]; exact hsh
    rcases (show zSH o = 20 ∨ zSH o = 21 ∨ zSH o = 22 ∨ zSH o = 23 ∨ zSH o = 24 ∨ zSH o = 25 by omega) with h | h | h | h | h | h
    · exact ⟨0, _, _, by decide, rfl, zc1_20 h⟩
    · exact ⟨1, _, _, by decide, rfl, zc1_21 h⟩
    · exact ⟨2, _, _, by decide, rfl, zc1_22 h⟩
    · exact ⟨3, _, _, by decide, rfl, zc1_23 h⟩
    · exact ⟨4, _, _, by decide, rfl, zc1_24 h⟩
    · exact ⟨5, _, _, by decide, rfl, zc1_25 h⟩
  obtain ⟨j, ty, x, -, h1, h2⟩ := hx
  rw [h2] at hat
  exact va_alen C.1 C.2.1 C.2.2.2.2.2.1.1 (zP1 hat) 0 j rfl h1 (show Int32.ofNat (zLN o) = zI ((zLN o : Nat) : Int) from rfl) d1 (k he ls H locs hl hW hS)
theorem zr_letw {P : Int → List Value} {a : Int} {F : Int → Zr} (ha : zw a = a) (k : ∀ x, zw x = x → zR G p l e R s m args below meth c nL cells slots Q n ρ res σ (F x) lv pc (P x)) : zR G p l e R s m args below meth c nL cells slots Q n ρ res σ (zlet a F) lv pc (P a) := k a ha
theorem zr_letx {P : Int → List Value} {a : Int} {F : Int → Zr} (ha : zx a = a) (k : ∀ x, zx x = x → zR G p l e R s m args below meth c nL cells slots Q n ρ res σ (F x) lv pc (P x)) : zR G p l e R s m args below meth c nL cells slots Q n ρ res σ (zlet a F) lv pc (P a) := k a ha
theorem zr_letf {α : Type} {v : α} {F : α → Zr} (k : ∀ x, x = v → zR G p l e R s m args below meth c nL cells slots Q n ρ res σ (F x) lv pc st) : zR G p l e R s m args below meth c nL cells slots Q n ρ res σ (zlet v F) lv pc st := k v rfl
theorem zr_lve {lv' : List (Nat × Value)} (h : lv = lv') (k : zR G p l e R s m args below meth c nL cells slots Q n ρ res σ ex lv' pc st) : zR G p l e R s m args below meth c nL cells slots Q n ρ res σ ex lv pc st := h ▸ k
theorem zr_zastg (C : zC G p s m args meth c cc nL own ret) {o N : Nat} {i j v : Int} {F : Zm → Zr} (hi : zin n o 21) (hN : zLN o = N) (hj : zw i = j) (d : zD cc pc .bastore 1 q) (k : ∀ σ', zR G p l e R s m args below meth c nL cells slots Q n ρ res σ' (F σ') lv q st) : zR G p l e R s m args below meth c nL cells slots Q n ρ res σ (zck j N (zlet (zst σ o j.toNat (zb v)) F)) lv pc (.int (zI v) :: .int (zI i) :: .ref (zad G o) :: st) := by
  obtain ⟨d1, rfl⟩ := d
  subst hN hj
  intro he ls H locs hl hW hS
  obtain ⟨h1, he⟩ := zck_some he
  have hat := hW.2 o hi.2
  rw [zc1_21 hi.1] at hat
  have hin := zI_in h1
  have hnr : narrow .boolean (.int (zI v)) = .int (zI (zb v)) := by rw [zb, zI_t]; rfl
  refine W.zast C.1 C.2.1 hat ((C.2.2.2.2.2.1.1.2 1 (G.2.1 1, .boolean) rfl).1 (zLN o) (fun j => .int (σ.1 o j))) (fun z => by cases z) (by show ¬ (zI i < 0 ∨ (arrV _ _ _).slots.size ≤ _); rw [arrV_size]; exact hin) rfl rfl d1 fun H1 e1 z oq => ?_
  refine k _ he ls H1 _ hl (hW.upd (o := o) z oq ?_ (fun p hp => zc1_st hp)) (hS.put z oq (zad_A G o))
  rw [zc1_21 hi.1]
  show H1[zad G o]? = some (vp_cell _ _)
  rw [e1, hnr]
  rw [vp_cell_i, vp_cell_i, arrV_store]
  congr 2
  funext q
  by_cases hq : q = (zI i).toNatClampNeg
  · subst hq
    simp [updV, zst, zI_cl]
  · rw [zI_cl] at hq
    simp [updV, zst, zI_cl, hq]
end ZCALLS
def ztt : Zp := fun _ _ => true
theorem zs_k {v : Value} {a b : List Value} (h : a = b) : v :: a = v :: b := by rw [h]
theorem zs_i {x y : Int32} {a b : List Value} (h0 : x = y) (h : a = b) : Value.int x :: a = Value.int y :: b := by rw [h, h0]
theorem zs_l {x y : Int64} {a b : List Value} (h0 : x = y) (h : a = b) : Value.long x :: a = Value.long y :: b := by rw [h, h0]
theorem zs_p {v : Nat × Value} {a b : List (Nat × Value)} (h : a = b) : v :: a = v :: b := by rw [h]
theorem zs_pi {i : Nat} {x y : Int32} {a b : List (Nat × Value)} (h0 : x = y) (h : a = b) : (i, Value.int x) :: a = (i, Value.int y) :: b := by rw [h, h0]
theorem zs_pl {i : Nat} {x y : Int64} {a b : List (Nat × Value)} (h0 : x = y) (h : a = b) : (i, Value.long x) :: a = (i, Value.long y) :: b := by rw [h, h0]
theorem zLN_le (o : Nat) : zLN o ≤ 5400 := by
  have h2 : ∀ o, o < 294 → zLN o ≤ 5400 := by decide +kernel
  by_cases h : o < 294
  · exact h2 o h
  · have h4 : zlnL.length = 294 := by decide +kernel
    have h3 : zlnL[o]? = none := List.getElem?_eq_none (by rw [h4]; omega)
    unfold zLN
    rw [List.getD_eq_getElem?_getD, h3]
    decide
theorem zw_LN (o : Nat) : zw ((zLN o : Nat) : Int) = ((zLN o : Nat) : Int) := zw_id (by omega) (by have := zLN_le o; omega)

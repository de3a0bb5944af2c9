/-! MY OWN: the world of numbered objects; what holds at a method's entry; the judgement zR -/
abbrev Zg : Type := va_G × (Nat → ClassId) × Nat × Nat × (Nat → Nat) × (Nat → Nat)
def zA (G : Zg) : Nat → Prop := fun q => G.2.2.1 ≤ q
def zad (G : Zg) (o : Nat) : Nat := G.2.2.1 + o
theorem zad_inj {G : Zg} {a b : Nat} (h : zad G a = zad G b) : a = b := by unfold zad at h; omega
theorem zad_A (G : Zg) (o : Nat) : zA G (zad G o) := Nat.le_add_right _ _
def ztys (G : Zg) : List (ClassId × FieldType) := [(G.2.1 0, .int), (G.2.1 1, .boolean), (G.2.1 2, .long), (G.2.1 3, .object "BrokenFugue$Line"), (G.2.1 4, .object "BrokenFugue$Rules"), (G.2.1 5, .array .int)]
def zfv (G : Zg) (r : Nat → Bool) (rf : Nat → Nat) (i : Nat → Int32) (j : Nat → Int64) (ty : FieldType) (k : Nat) : Value := match ty with
  | .long => .long (j k)
  | .object _ => if r k = true then .ref (zad G (rf k)) else .null
  | .array _ => if r k = true then .ref (zad G (rf k)) else .null
  | _ => .int (i k)
def zfs (G : Zg) (c : Nat) (r : Nat → Bool) (rf : Nat → Nat) (i : Nat → Int32) (j : Nat → Int64) : List Value := (List.range (zNF c)).map (fun k => zfv G r rf i j (zTy c k) k)
def zrs (G : Zg) (r : Nat → Bool) (rf : Nat → Nat) : Nat → Option Nat := fun k => if r k = true then some (zad G (rf k)) else none
def zce (G : Zg) (sh ln : Nat) (r : Nat → Bool) (rf : Nat → Nat) (i : Nat → Int32) (j : Nat → Int64) : va_E :=
  if sh = 20 then .inl (G.2.1 0, ln, .inl i)
  else if sh = 21 then .inl (G.2.1 1, ln, .inl i)
  else if sh = 22 then .inl (G.2.1 2, ln, .inr (.inl j))
  else if sh = 23 then .inl (G.2.1 3, ln, .inr (.inr (.inr (.inr (zrs G r rf)))))
  else if sh = 24 then .inl (G.2.1 4, ln, .inr (.inr (.inr (.inr (zrs G r rf)))))
  else if sh = 25 then .inl (G.2.1 5, ln, .inr (.inr (.inr (.inr (zrs G r rf)))))
  else .inr (sh, zfs G sh r rf i j)
abbrev Zp : Type := Nat → Nat → Bool
def zc1 (G : Zg) (ρ : Zp) (σ : Zm) (o : Nat) : va_E := zce G (zSH o) (zLN o) (ρ o) (zRF o) (σ.1 o) (σ.2 o)
def zW (G : Zg) (n : Nat) (ρ : Zp) (σ : Zm) (H : Heap) : Prop := H.size = G.2.2.1 + n ∧ ∀ o, o < n → va_at G.1 zcl (zad G o, zc1 G ρ σ o) H
theorem zfs_len (G : Zg) (c : Nat) (r : Nat → Bool) (rf : Nat → Nat) (i : Nat → Int32) (j : Nat → Int64) : (zfs G c r rf i j).length = zNF c := by simp [zfs]
theorem zfs_at {G : Zg} {c k : Nat} {r : Nat → Bool} {rf : Nat → Nat} {i : Nat → Int32} {j : Nat → Int64} (hk : k < zNF c) : (zfs G c r rf i j)[k]? = some (zfv G r rf i j (zTy c k) k) := by simp [zfs, hk]
theorem zfs_set {G : Zg} {c k : Nat} {r r' : Nat → Bool} {rf : Nat → Nat} {i i' : Nat → Int32} {j j' : Nat → Int64} {v : Value} (hv : zfv G r' rf i' j' (zTy c k) k = v) (ho : ∀ q, q ≠ k → r' q = r q ∧ i' q = i q ∧ j' q = j q) : (zfs G c r rf i j).set k v = zfs G c r' rf i' j' := by
  apply List.ext_getElem?
  intro q
  by_cases hq : q < zNF c
  · by_cases e : q = k
    · subst e
      rw [List.getElem?_set_self (by rw [zfs_len]; exact hq), zfs_at hq, hv]
    · rw [List.getElem?_set_ne (Ne.symm e), zfs_at hq, zfs_at hq]
      obtain ⟨h1, h2, h3⟩ := ho q e
      simp only [zfv]
      cases zTy c q <;> simp only [h1, h2, h3]
  · rw [List.getElem?_eq_none (by rw [List.length_set, zfs_len]; omega), List.getElem?_eq_none (by rw [zfs_len]; omega)]
theorem zc1_obj {G : Zg} {ρ : Zp} {σ : Zm} {o c : Nat} (h : zSH o = c) (hc : c < 11) : zc1 G ρ σ o = .inr (c, zfs G c (ρ o) (zRF o) (σ.1 o) (σ.2 o)) := by
  unfold zc1 zce
  rw [h, if_neg (by omega), if_neg (by omega), if_neg (by omega), if_neg (by omega), if_neg (by omega), if_neg (by omega)]
theorem zc1_20 {G : Zg} {ρ : Zp} {σ : Zm} {o : Nat} (h : zSH o = 20) : zc1 G ρ σ o = .inl (G.2.1 0, zLN o, .inl (σ.1 o)) := by unfold zc1 zce; rw [h]; rfl
theorem zc1_21 {G : Zg} {ρ : Zp} {σ : Zm} {o : Nat} (h : zSH o = 21) : zc1 G ρ σ o = .inl (G.2.1 1, zLN o, .inl (σ.1 o)) := by unfold zc1 zce; rw [h]; rfl
theorem zc1_22 {G : Zg} {ρ : Zp} {σ : Zm} {o : Nat} (h : zSH o = 22) : zc1 G ρ σ o = .inl (G.2.1 2, zLN o, .inr (.inl (σ.2 o))) := by unfold zc1 zce; rw [h]; rfl
theorem zc1_23 {G : Zg} {ρ : Zp} {σ : Zm} {o : Nat} (h : zSH o = 23) : zc1 G ρ σ o = .inl (G.2.1 3, zLN o, .inr (.inr (.inr (.inr (zrs G (ρ o) (zRF o)))))) := by unfold zc1 zce; rw [h]; rfl
theorem zc1_24 {G : Zg} {ρ : Zp} {σ : Zm} {o : Nat} (h : zSH o = 24) : zc1 G ρ σ o = .inl (G.2.1 4, zLN o, .inr (.inr (.inr (.inr (zrs G (ρ o) (zRF o)))))) := by unfold zc1 zce; rw [h]; rfl
theorem zc1_25 {G : Zg} {ρ : Zp} {σ : Zm} {o : Nat} (h : zSH o = 25) : zc1 G ρ σ o = .inl (G.2.1 5, zLN o, .inr (.inr (.inr (.inr (zrs G (ρ o) (zRF o)))))) := by unfold zc1 zce; rw [h]; rfl
theorem zP1 {D : va_G} {cl : List vw_C} {x : Nat × va_E} {H : Heap} (h : va_at D cl x H) : va_P D cl [x] H := by
  intro k q hk
  match k, hk with
  | 0, hk => cases hk; exact h
theorem zc1_st {G : Zg} {ρ : Zp} {σ : Zm} {o k p : Nat} {v : Int} (h : p ≠ o) : zc1 G ρ (zst σ o k v) p = zc1 G ρ σ p := by
  unfold zc1 zst
  dsimp only
  congr 1
  funext j
  rw [if_neg (fun q => h q.1)]
theorem zc1_sl {G : Zg} {ρ : Zp} {σ : Zm} {o k p : Nat} {v : Int} (h : p ≠ o) : zc1 G ρ (zsl σ o k v) p = zc1 G ρ σ p := by
  unfold zc1 zsl
  dsimp only
  congr 1
  funext j
  rw [if_neg (fun q => h q.1)]
theorem zW.upd {G : Zg} {n : Nat} {ρ ρ' : Zp} {σ σ' : Zm} {H H1 : Heap} {o : Nat} (h : zW G n ρ σ H) (z : H1.size = H.size) (oq : ∀ q, q ≠ zad G o → H1[q]? = H[q]?) (hat : va_at G.1 zcl (zad G o, zc1 G ρ' σ' o) H1) (hs : ∀ p, p ≠ o → zc1 G ρ' σ' p = zc1 G ρ σ p) : zW G n ρ' σ' H1 := by
  refine ⟨z.trans h.1, fun p hp => ?_⟩
  by_cases e : p = o
  · rw [e]; exact hat
  · rw [hs p e]
    exact (h.2 p hp).kept (oq _ (fun q => e (zad_inj q)))
def znest : Cond → Bool
  | .fieldLinkNest .. => true
  | .methodLinkNest .. => true
  | _ => false
def znst : List Cond := lw_tbl.filter znest
def zLev (j : Nat) : Int32 := ([0, 1, 2, 3, 4, 4, 4, 4, 4, 4, 5, 5, 6, 6, 7] : List Int32).getD j 0
def zWords : String := "pair line ahead beside when or and not gap was mine yours low high cross hold place step last pitch rest number ruling ink size numberb rulingb inkb sizeb "
def zWlen : Nat := 155
def zWbyt : List Int32 := [112, 97, 105, 114, 32, 108, 105, 110, 101, 32, 97, 104, 101, 97, 100, 32, 98, 101, 115, 105, 100, 101, 32, 119, 104, 101, 110, 32, 111, 114, 32, 97, 110, 100, 32, 110, 111, 116, 32, 103, 97, 112, 32, 119, 97, 115, 32, 109, 105, 110, 101, 32, 121, 111, 117, 114, 115, 32, 108, 111, 119, 32, 104, 105, 103, 104, 32, 99, 114, 111, 115, 115, 32, 104, 111, 108, 100, 32, 112, 108, 97, 99, 101, 32, 115, 116, 101, 112, 32, 108, 97, 115, 116, 32, 112, 105, 116, 99, 104, 32, 114, 101, 115, 116, 32, 110, 117, 109, 98, 101, 114, 32, 114, 117, 108, 105, 110, 103, 32, 105, 110, 107, 32, 115, 105, 122, 101, 32, 110, 117, 109, 98, 101, 114, 98, 32, 114, 117, 108, 105, 110, 103, 98, 32, 105, 110, 107, 98, 32, 115, 105, 122, 101, 98, 32]
def zE (G : Zg) (U : State) : Prop :=
  va_K G.1 zcl (ztys G) U ∧ (∀ w ∈ znst, va_Nw w U) ∧
  (va_Z "BrokenFugue" "LEVELS" "[I" (.ref G.2.2.2.1) (zA G) U U.heap ∧ va_T .int G.2.2.2.1 15 (fun j => .int (zLev j)) (zA G) U U.heap) ∧
  (vk_S 1 [zWlen] [zWbyt] G.2.2.2.2.1 G.2.2.2.2.2 (zA G) U U.heap ∧ vk_R "BrokenFugue$Reader" 159 zWords (G.2.2.2.2.1 0) U) ∧
  (va_Z "java/lang/String" "COMPACT_STRINGS" "Z" (.int 1) (zA G) U U.heap ∧ va_Zq "jdk/internal/util/Preconditions" "SIOOBE_FORMATTER" "Ljava/util/function/BiFunction;" (zA G) U U.heap)
theorem znst_warm {w : Cond} (hw : w ∈ znst) {s U : State} (hW : s.WarmedH U.vm) (h : va_Nw w s) : va_Nw w U := by
  have h1 := (List.mem_filter.mp hw).2
  cases w with
  | fieldLinkNest a b c d e f => exact va_Nw.warmF hW h
  | methodLinkNest a b c d => exact va_Nw.warmM hW h
  | _ => cases h1
theorem znst_on {w : Cond} (hw : w ∈ znst) : w.onTables = true := by
  have h1 := (List.mem_filter.mp hw).2
  cases w with
  | fieldLinkNest a b c d e f => rfl
  | methodLinkNest a b c d => rfl
  | _ => cases h1
theorem zZq_moved {C n d : String} {A : Nat → Prop} {u U : State} {H : Heap} (hvm : u.vm.Alike U.vm) (h : va_Zq C n d A u H) : va_Zq C n d A U H := by
  rcases h with h | ⟨t, h⟩
  · exact Or.inl (va_Z.moved hvm h)
  · exact Or.inr ⟨t, va_Z.moved hvm h⟩
theorem zZq_kept {C n d : String} {A : Nat → Prop} {U : State} {H H1 : Heap} (h : va_Zq C n d A U H) (hq : ∀ a : Nat, a < H.size → ¬ A a → H1[a]? = H[a]?) : va_Zq C n d A U H1 := by
  rcases h with h | ⟨t, h⟩
  · exact Or.inl (va_Z.kept h hq)
  · exact Or.inr ⟨t, va_Z.kept h hq⟩
theorem zE_warm {G : Zg} {s U : State} (h : zE G s) (hW : s.WarmedH U.vm) (hq : ∀ a : Nat, a < s.heap.size → ¬ zA G a → U.heap[a]? = s.heap[a]?) : zE G U := by
  obtain ⟨h1, h2, ⟨h3, h4⟩, ⟨h5, h6⟩, h7, h8⟩ := h
  have ha := hW.alike
  exact ⟨va_K.moved ha h1, fun w hw => znst_warm hw hW (h2 w hw), ⟨va_Z.moved ha (va_Z.kept h3 hq), va_T.moved ha (va_T.kept h4 hq)⟩, ⟨vk_S.moved ha (vk_S.kept h5 hq), vk_R.warm hW h6⟩, va_Z.moved ha (va_Z.kept h7 hq), zZq_moved ha (zZq_kept h8 hq)⟩
theorem zE_call {G : Zg} {U : State} (h : zE G U) (g : JFrame) (mk : MethodId) (a : Array Value) : zE G (U.calling g mk a) := by
  obtain ⟨h1, h2, ⟨h3, h4⟩, ⟨h5, h6⟩, h7, h8⟩ := h
  have ha : U.vm.Alike (U.calling g mk a).vm := Vm.Alike.refl U.vm
  exact ⟨va_K.moved ha h1, fun w hw => va_Nw.same (u := U) (U := U.calling g mk a) (znst_on hw) rfl (h2 w hw), ⟨va_Z.moved ha h3, va_T.moved ha h4⟩, ⟨vk_S.moved ha h5, vk_R.same (u := U) (U := U.calling g mk a) rfl h6⟩, va_Z.moved ha h7, zZq_moved ha h8⟩
def zC (G : Zg) (p : Program) (s : State) (m : MethodId) (args : Array Value) (meth : Method) (c : Code) (cc : ByteArray) (nL : Nat) (own : String) (ret : Option FieldType) : Prop :=
  p.tables.exec = Jvm.exec ∧ c.code = cc ∧ c.maxLocals = nL ∧ s.vm.findClass own = some m.cls ∧ (∀ w ∈ ztb, w.before args s = true) ∧ zE G s ∧ meth.sig.returnType = ret ∧ meth.locks = false
def zR (G : Zg) (p : Program) (l : Launch) (e : Env) (R : Room) (s : State) (m : MethodId) (args : Array Value) (below : List Frame) (meth : Method) (c : Code) (nL cells slots : Nat) (Q : State → Prop) (n : Nat) (ρ : Zp) (res : Int × Zm) (σ : Zm) (ex : Zr) (lv : List (Nat × Value)) (pc : Nat) (st : List Value) : Prop :=
  ex = some res → ∀ (ls : Array Slot) (H : Heap) (locs : List Loc), lv_has ls nL lv → zW G n ρ σ H → va_S (zA G) s.heap H locs → W p l e R s m args below meth c H locs cells slots Q (F0 m pc ls st)
def zrm (d : Nat) : Room := { frames := d, cells := 0, slots := 0, locals := 40 * d }
def zPc (G : Zg) (n : Nat) (ρ : Zp) (σ : Zm) (av : List Value) : Array Value → State → Prop := fun a U => a = av.toArray ∧ zW G n ρ σ U.heap ∧ zE G U
def zQc (G : Zg) (n : Nat) (ρ : Zp) (ov : Option Value) (σ' : Zm) : Array Value → State → Outcome → State → Prop := fun _ st o t => o = .returned ov ∧ zW G n ρ σ' t.heap ∧ va_F (zA G) st t
def zM (l : Launch) (y : MethodName) (cc : ByteArray) (maxL : Nat) (ret : Option FieldType) (d : Nat) (G : Zg) (n : Nat) (ρ : Zp) (σ : Zm) (av : List Value) (ov : Option Value) (σ' : Zm) : Prop :=
  Met l y (.code y cc maxL ret :: ztb) (zrm d) (zPc G n ρ σ av) (zQc G n ρ ov σ') 0 0 (zA G)
def zQm (below : List Frame) (args : Array Value) (s : State) (G : Zg) (n : Nat) (ρ : Zp) (ov : Option Value) (σ' : Zm) : State → Prop := MQ below (zQc G n ρ ov σ') args s 0 0 (zA G)
theorem zMet_ofW {l : Launch} {y : MethodName} {ws ws' : List Cond} {rm : Room} {Pc : Array Value → State → Prop} {Qc : Array Value → State → Outcome → State → Prop} {mc ms : Nat} {free : Addr → Prop} {cc : ByteArray} {maxL : Nat} {ret : Option FieldType}
    (hy : plainFor y = true) (hw : ws = Cond.code y cc maxL ret :: ws')
    (body : ∀ p e s m args below meth c s₁, BodyLoose p l y (headSpec ws rm) cc maxL ret e s m args below meth c s₁ → c.maxLocals = maxL → Pc args s →
      W p l e (headSpec ws rm).room s m args below meth c s.heap [] 0 0 (MQ below Qc args s mc ms free) (entryFrame m args maxL)) : Met l y ws rm Pc Qc mc ms free := by
  refine MetFree.of_bodySF (code := cc) (maxLocals := maxL) (ret := ret) hy ?_ ?_
  · intro args s m h hn
    obtain ⟨meth, c, h1, h2, h3, h4, h5, h6, -, -⟩ := Cond.code_spec hn (atoms_spec (ws := ws) h _ (by rw [hw]; exact List.mem_cons_self))
    exact ⟨meth, c, h1, h2, h3, h4, h5, h6⟩
  · intro p e s m args below meth c s₁ B hml hP _
    have hh0 : s₁.heap = s.heap := by rw [B.state]; rfl
    obtain ⟨t, a1, o, b1, b2, b3⟩ := body p e s m args below meth c s₁ B hml hP s₁ hh0 (Stand.of_body B)
    exact ⟨t, o, a1, b1, b2, ⟨b3.1, b3.2⟩⟩
theorem zM_of {l : Launch} {y : MethodName} {cc : ByteArray} {maxL : Nat} {ret : Option FieldType} {d : Nat} {G : Zg} {n : Nat} {ρ : Zp} {σ : Zm} {av : List Value} {ov : Option Value} {res : Int × Zm} {ex : Zr} (hex : ex = some res) (hy : plainFor y = true) (hlen : (lg_sl av).length ≤ maxL) {lv : List (Nat × Value)} (hlv : lv_args 0 av = lv)
    (body : ∀ (p : Program) (e : Env) (s : State) (m : MethodId) (below : List Frame) (meth : Method) (c : Code), zC G p s m av.toArray meth c cc maxL y.cls ret → zR G p l e (zrm d) s m av.toArray below meth c maxL 0 0 (zQm below av.toArray s G n ρ ov res.2) n ρ res σ ex lv 0 []) : zM l y cc maxL ret d G n ρ σ av ov res.2 := by
  refine zMet_ofW (cc := cc) (maxL := maxL) (ret := ret) hy rfl ?_
  intro p e s m args below meth c s₁ B hml hv
  obtain ⟨rfl, hW, hE⟩ := hv
  have hts := atoms_spec (ws := Cond.code y cc maxL ret :: ztb) B.pre
  have hown : s.vm.findClass y.cls = some m.cls := findClass_of_methodNamed B.named
  have hl := lv_entry av (n := maxL) hlen
  rw [lg_entry_eq]
  rw [hlv] at hl
  exact body p e s m below meth c ⟨B.exec, B.bytes, hml, hown, fun w hw => hts w (List.mem_cons_of_mem _ hw), hE, B.returns, B.notSynchronized⟩ hex _ s.heap [] hl hW va_S.rf

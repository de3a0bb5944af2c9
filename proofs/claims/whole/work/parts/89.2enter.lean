/-! THE CLAIM OUT OF ONE WALK OF THE LAW'S BODY (the skeleton's rows), then MY OWN: the world at the law's entry -/
def R_law : String := "BrokenFugueLaw"
def lw_P (b : Addr) (xs : List Int32) (args : Array Value) (s : State) : Prop := args = #[.ref b] ∧ s.IntsAt b xs ∧ xs.length ≤ 4096 ∧ (Jvm.Cond.and given_1 narrow_1).before args s = true
def lw_Q (_ : Array Value) (s : State) (o : Outcome) (t : State) : Prop := o = .returned (some (.int 1)) ∧ Framed s o t [] 600000 7302250
def lw_Z (below : List Frame) (a : Array Value) (s : State) : State → Prop := fun t => ∃ o, t.status = .running ∧ Ended t below o ∧ lw_Q a s o t
theorem lw_ret {p : Program} {l : Launch} {e : Env} {s : State} {m : MethodId} {below : List Frame} {meth : Method} {c : Code} {b : Nat} (hx : p.tables.exec = Jvm.exec) (hb : c.code = code) (hr : meth.sig.returnType = ret) (hlocks : meth.locks = false) {pc : Nat} {H : Heap} {ls : Array Slot} (hdg : decode code pc = .ok (.ireturn, 1)) : W p l e room_1 s m #[Value.ref b] below meth c H [] 600000 7302250 (lw_Z below #[Value.ref b] s) (F0 m pc ls [.int 1]) := by
  intro T hT X
  obtain ⟨fs, hret, hrun, hended, hW, hframe⟩ := X.leave (v := some (.int 1)) (hlocks := hlocks) (fun h => by rw [hr] at h; cases h)
  have hmeth' : T.vm.method? m = some meth := X.method'
  refine ⟨T.setFrames fs, ?_, .returned (some (.int 1)), hrun, hended, rfl, ⟨_, rfl⟩, hW, hframe⟩
  jvm_step X.here [X.here.top, hx, hb, hdg, hmeth', hr, ret, narrow_b1]
  (try refine ⟨rfl, ?_⟩); (try refine ⟨rfl, ?_⟩)
  first | (intro acts; rw [hret _ acts rfl rfl rfl]) | rw [hret _ _ rfl rfl rfl]
  exact Steps.refl _
def lw_At (p : Program) (s : State) (m : MethodId) (meth : Method) (c : Code) (b L : Nat) (xs : Nat → Int32) : Prop :=
  p.tables.exec = Jvm.exec ∧ c.code = code ∧ meth.sig.returnType = ret ∧ c.maxLocals = 4 ∧ s.vm.findClass R_law = some m.cls ∧ (∀ w ∈ lw_tbl, w.before #[Value.ref b] s = true) ∧ va_X b L xs s s.heap ∧ b < s.heap.size ∧ meth.locks = false ∧ (Jvm.Cond.and given_1 narrow_1).before #[Value.ref b] s = true
/-! MY OWN -/
theorem zx_over {args : Array Value} {s : State} {t : FieldType} (h : (Cond.arrayOver (.array t)).before args s = true) : ∃ comp c k, s.vm.classes[c]? = some k ∧ k.kind = .array comp (.array t) ∧ s.vm.findClass ("[" ++ (FieldType.array t).toString) = some c := by
  simp only [Cond.before, Cond.holds, Cond.value, beq_iff_eq] at h
  cases hc : s.vm.findClass (FieldType.array t).toString with
  | none => simp [hc] at h
  | some comp =>
    simp only [hc, Option.bind_some, Option.bind_eq_some_iff, Option.map_eq_some_iff] at h
    obtain ⟨c, hi, k, hk, hb⟩ := h
    cases hkind : k.kind with
    | array component ty =>
      rw [hkind] at hb
      simp at hb
      exact ⟨component, c, k, hk, by rw [hkind, hb.1], hb.2⟩
    | _ => rw [hkind] at hb; simp at hb
theorem zx_arr {args : Array Value} {s : State} {t : FieldType} (hR : ∀ cA, s.vm.findClass ("[" ++ t.toString) = some cA → va_RA s cA t) (h : (Cond.arrayClass t).before args s = true) : ∃ cA, ArrOfT s cA t ∧ va_RA s cA t := by
  obtain ⟨cA, kA, comp, h1, h2, h3⟩ := Cond.arrayClass_spec h
  exact ⟨cA, fun n z => ⟨(fun k h => by cases h), kA, h2, comp, h3⟩, hR cA h1⟩
theorem zx_obj {args : Array Value} {s : State} {C : String} (h : (Cond.arrayOver (.object C)).before args s = true) : ∃ cA, ArrOfT s cA (.object C) ∧ va_RA s cA (.object C) := by
  obtain ⟨comp, cA, kA, h1, _, h2, h3, h4⟩ := Cond.arrayOver_spec h
  exact ⟨cA, fun n z => ⟨(fun k h => by cases h), kA, h2, comp, h3⟩, kA, comp, h2, h3, h1, h4⟩
theorem zx_aa {args : Array Value} {s : State} (h : (Cond.arrayOver (.array .int)).before args s = true) : ∃ cA, ArrOfT s cA (.array .int) ∧ va_RA s cA (.array .int) := by
  obtain ⟨comp, cA, kA, h2, h3, h4⟩ := zx_over h
  exact ⟨cA, fun n z => ⟨(fun k h => by cases h), kA, h2, comp, h3⟩, h4⟩
def zfl1 : List Cond := flatC (Jvm.Cond.and given_1 narrow_1)
theorem zlev_at : ∀ j, j < 15 → zfl1[12 + j]? = some (Cond.eq (.elem (.static "BrokenFugue" "LEVELS" "[I") (.int (Int32.ofNat j))) (.int (zLev j))) := by decide +kernel
theorem zlev_in (j : Nat) (h : j < 15) : Cond.eq (.elem (.static "BrokenFugue" "LEVELS" "[I") (.int (Int32.ofNat j))) (.int (zLev j)) ∈ zfl1 := List.mem_of_getElem? (zlev_at j h)
theorem zwrd_at : ∀ j, j < 155 → zfl1[53 + j]? = some (Cond.eq (.elem (.field (.string "BrokenFugue$Reader" 159) "java/lang/String" "value" "[B") (.int (Int32.ofNat j))) (.int (zWbyt.getD j 0))) := by decide +kernel
theorem zwrd_in (j : Nat) (h : j < 155) : Cond.eq (.elem (.field (.string "BrokenFugue$Reader" 159) "java/lang/String" "value" "[B") (.int (Int32.ofNat j))) (.int (zWbyt.getD j 0)) ∈ zfl1 := List.mem_of_getElem? (zwrd_at j h)
theorem zinst : ∀ c, c < 11 → Cond.instantiable (zCn c) (zNF c) ∈ lw_tbl := by decide +kernel
theorem law_enter {p : Program} {s : State} {m : MethodId} {meth : Method} {c : Code} {b L : Nat} {xs : Nat → Int32} (C0 : lw_At p s m meth c b L xs) : ∃ G : Zg, G.2.2.1 = s.heap.size ∧ zC G p s m #[Value.ref b] meth c code 4 R_law ret ∧ zO s := by
  obtain ⟨hx, hb, hr, hml, hown, hts, hX, hbl, hlocks, hgv⟩ := C0
  have hgf : ∀ w ∈ zfl1, w.before #[Value.ref b] s = true := flat_of_before _ hgv
  have hA : ∀ a : Nat, a < s.heap.size → ¬ (fun q : Nat => s.heap.size ≤ q) a := fun a ha => Nat.not_le.mpr ha
  -- the classes
  have hkn : ∀ c : Nat, ∃ q : ClassId × (Nat → Nat), c < 11 → u_Kn s (zCn c) (zTt c) (zNF c) q.1 q.2 := by
    intro c
    by_cases hc : c < 11
    · obtain ⟨cC, iS, h⟩ := u_known (C := zCn c) (T := zTt c) (N := zNF c) (n := zNF c) hts (fun w hw => ztb_sub w (zin_ws hc w hw)) (hts _ (zinst c hc))
      exact ⟨(cC, iS), fun _ => h⟩
    · exact ⟨(0, fun _ => 0), fun h => absurd h hc⟩
  obtain ⟨ad, had⟩ := Classical.axiomOfChoice hkn
  -- the array classes
  obtain ⟨a0, b0, c0⟩ := zx_arr (t := .int) (fun _ h => h) (hts (.arrayClass .int) (by decide +kernel))
  obtain ⟨a1, b1, c1⟩ := zx_arr (t := .boolean) (fun _ h => h) (hts (.arrayClass .boolean) (by decide +kernel))
  obtain ⟨a2, b2, c2⟩ := zx_arr (t := .long) (fun _ h => h) (hts (.arrayClass .long) (by decide +kernel))
  have o3 : (Cond.arrayOver (.object "BrokenFugue$Line")).before #[Value.ref b] s = true := hts _ (by decide +kernel)
  have o4 : (Cond.arrayOver (.object "BrokenFugue$Rules")).before #[Value.ref b] s = true := hts _ (by decide +kernel)
  have o5 : (Cond.arrayOver (.array .int)).before #[Value.ref b] s = true := hts _ (by decide +kernel)
  obtain ⟨a3, b3, c3⟩ := zx_obj o3
  obtain ⟨a4, b4, c4⟩ := zx_obj o4
  obtain ⟨a5, b5, c5⟩ := zx_aa o5
  -- the levels
  obtain ⟨tL, hL1, hL2⟩ := va_Tof (args := #[Value.ref b]) (s := s) (tm := .static "BrokenFugue" "LEVELS" "[I") (ty := .int) (N := 15) (f := fun j => .int (zLev j)) (A := fun q : Nat => s.heap.size ≤ q) (by decide) (hgf _ (by decide +kernel)) (va_eqt (hgf _ (by decide +kernel))) (fun j hj => va_eqt (hgf _ (zlev_in j hj))) hA
  have hZ1 : va_Z "BrokenFugue" "LEVELS" "[I" (.ref tL) (fun q : Nat => s.heap.size ≤ q) s s.heap := va_Zref (hts _ (by decide +kernel)) (hts _ (by decide +kernel)) hL1 hA
  -- the words
  have hlen0 : ∀ i : Nat, i < 1 → [zWlen].getD i 0 < 2 ^ 31 := fun i hi => by
    have : i = 0 := by omega
    subst this
    decide
  obtain ⟨adK, adV, hS1, hS2⟩ := vk_Sof (args := #[Value.ref b]) (s := s) (N := 1) (tm := fun _ => .string "BrokenFugue$Reader" 159) (len := [zWlen]) (byt := [zWbyt]) (A := fun q : Nat => s.heap.size ≤ q) hlen0 (fun i hi => hgf _ (by decide +kernel)) (fun i hi => hgf _ (by decide +kernel)) (fun i hi => hgf _ (by decide +kernel)) (fun i hi => by
      have : i = 0 := by omega
      subst this
      exact hgf _ (by decide +kernel)) (fun i hi j hj => by
      have : i = 0 := by omega
      subst this
      exact hgf _ (zwrd_in j hj)) (fun i j hi hj hij => by omega) hA
  have hR1 : vk_R "BrokenFugue$Reader" 159 zWords (adK 0) s := vk_R.of (A := #[Value.ref b]) (hts _ (by decide +kernel)) (hS2 0 (by decide))
  have hZ2 : va_Z "java/lang/String" "COMPACT_STRINGS" "Z" (.int 1) (fun q : Nat => s.heap.size ≤ q) s s.heap := va_Zof (hts _ (by decide +kernel)) (hts _ (by decide +kernel)) (va_eqt (hgf _ (by decide +kernel))) hA
  have hZ3 : va_Zq "jdk/internal/util/Preconditions" "SIOOBE_FORMATTER" "Ljava/util/function/BiFunction;" (fun q : Nat => s.heap.size ≤ q) s s.heap := va_Zqof (hts _ (by decide +kernel)) (hts _ (by decide +kernel)) (hgf _ (by decide +kernel)) hA
  refine ⟨((fun k => (ad k).1, fun k => (ad k).2), fun k => if k = 0 then a0 else if k = 1 then a1 else if k = 2 then a2 else if k = 3 then a3 else if k = 4 then a4 else a5, s.heap.size, tL, adK, adV), rfl, ⟨hx, hb, hml, hown, fun w hw => hts w (ztb_sub w hw), ⟨⟨fun k q hk => ?_, fun k q hk => ?_⟩, fun w hw => va_Nw.of (znst_on hw) (hts w (List.mem_filter.mp hw).1), ⟨hZ1, hL2⟩, ⟨hS1, hR1⟩, hZ2, hZ3⟩, hr, hlocks⟩, ⟨va_AO.of o3, va_AO.of o4, o5⟩⟩
  · have hk11 : k < 11 := by
      have := (List.getElem?_eq_some_iff.mp hk).1
      simpa [zcl] using this
    rw [zcl_at hk11] at hk
    cases hk
    exact had k hk11
  · match k, hk with
    | 0, hk => cases hk; exact ⟨b0, c0⟩
    | 1, hk => cases hk; exact ⟨b1, c1⟩
    | 2, hk => cases hk; exact ⟨b2, c2⟩
    | 3, hk => cases hk; exact ⟨b3, c3⟩
    | 4, hk => cases hk; exact ⟨b4, c4⟩
    | 5, hk => cases hk; exact ⟨b5, c5⟩
    | k + 6, hk => simp [ztys] at hk

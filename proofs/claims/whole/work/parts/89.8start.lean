/-! MY OWN: the law from its entry -/
section LAWS
variable {G : Zg} {p : Program} {l : Launch} {e : Env} {R : Room} {s : State} {m : MethodId} {args : Array Value} {below : List Frame} {meth : Method} {c : Code} {cc : ByteArray} {nL cells slots : Nat} {own : String} {ret : Option FieldType} {Q : State → Prop} {n : Nat} {ρ : Zp} {res : Int × Zm} {σ : Zm} {lv : List (Nat × Value)} {pc q : Nat} {st rest : List Value}
theorem zl_new (C : zC G p s m args meth c cc nL own ret) {ci ix : Nat} (hc : ci < 11) (hcl : Cond.classLink own ix (zCn ci) ∈ ztb) (hw : Cond.instantiable (zCn ci) (zNF ci) ∈ ztb ∧ Cond.initialized (zCn ci) ∈ ztb) (hsh : zSH n = ci) (hR : cells + 1 ≤ R.cells ∧ slots + zNF ci ≤ R.slots) (d : zD cc pc (.new ix) 3 q) (k : zR G p l e R s m args below meth c nL (cells + 1) (slots + zNF ci) Q (n + 1) (zρf ρ n) res (zzr σ n) (some res) lv q (.ref (zad G n) :: st)) : zR G p l e R s m args below meth c nL cells slots Q n ρ res σ (some res) lv pc st := by
  intro _ ls H locs hl hW hS
  refine zr_new C (res := (0, zzr σ n)) (F := fun σ' => some (0, σ')) hc hcl hw hsh hR d (fun σ' he' ls H locs hl hW hS => ?_) rfl ls H locs hl hW hS
  cases he'
  exact k rfl ls H locs hl hW hS
theorem zl_init (C : zC G p s m args meth c cc nL own ret) (hO : zO s) {y : MethodName} {b : ByteArray} {mL np ix dp mc ms o n' : Nat} {ρ' : Zp} {fe : Zr} (As : List Value) (Y : zY y b mL none np) (Yi : Cond.instanceMethod y ∈ ztb) (hyn : y.name = "<init>") (Lk : zL own ix y) (hR : (dp + 1 ≤ R.frames ∧ 8 + (mL + 11) + 40 * dp ≤ R.locals) ∧ cells + mc ≤ R.cells ∧ slots + ms ≤ R.slots) (hM : ∀ r : Int × Zm, fe = some r → zMc l y b mL dp G n ρ σ (.ref (zad G o) :: As) n' ρ' r.2 mc ms) (hn : As.length = np) (hst : st = As.reverse ++ .ref (zad G o) :: rest) (hsum : (rest.map fun v => v.category).sum ≤ 8) (d : zD cc pc (.invokespecial ix) 3 q) {r1 : Int} {σ1 : Zm} (he : fe = some (r1, σ1)) (k : zR G p l e R s m args below meth c nL (cells + mc) (slots + ms) Q n' ρ' res σ1 (some res) lv q rest) : zR G p l e R s m args below meth c nL cells slots Q n ρ res σ (some res) lv pc st := by
  intro _ ls H locs hl hW hS
  refine zr_init C hO (res := (0, σ1)) (F := fun σ' => some (0, σ')) As Y Yi hyn Lk hR hM hn hst hsum d (fun σ' he' ls H locs hl hW hS => ?_) (by rw [he]; rfl) ls H locs hl hW hS
  cases he'
  exact k rfl ls H locs hl hW hS
end LAWS
def z00 : Zm := (fun _ _ => 0, fun _ _ => 0)
theorem lzy_X9_init : zY yX9_init cX9_init 2 none 0 := by unfold zY; decide +kernel
theorem lzy_X10_init : zY yX10_init cX10_init 2 none 0 := by unfold zY; decide +kernel
theorem lzi_X9_init : Cond.instanceMethod yX9_init ∈ ztb := by decide +kernel
theorem lzi_X10_init : Cond.instanceMethod yX10_init ∈ ztb := by decide +kernel
theorem lzk_X9_init : zL R_law 9 yX9_init := Or.inl (by decide +kernel)
theorem lzk_X10_init : zL R_law 12 yX10_init := Or.inl (by decide +kernel)
theorem lcl_7 : Cond.classLink R_law 7 (zCn 9) ∈ ztb := by decide +kernel
theorem lcl_10 : Cond.classLink R_law 10 (zCn 10) ∈ ztb := by decide +kernel
theorem lcw_9 : Cond.instantiable (zCn 9) (zNF 9) ∈ ztb ∧ Cond.initialized (zCn 9) ∈ ztb := by decide +kernel
theorem lcw_10 : Cond.instantiable (zCn 10) (zNF 10) ∈ ztb ∧ Cond.initialized (zCn 10) ∈ ztb := by decide +kernel
theorem whole_start {p : Program} {e : Env} {s : State} {m : MethodId} {below : List Frame} {meth : Method} {c : Code} (l : Launch) (hflags : l.flags = flags0) {b L : Nat} {xs : Nat → Int32} (hL : L ≤ 4096) (C0 : lw_At p s m meth c b L xs) : W p l e room_1 s m #[Value.ref b] below meth c s.heap [] 0 0 (lw_Z below #[Value.ref b] s) (entryFrame m ([Value.ref b] : List Value).toArray 4) := by
  obtain ⟨G, hG, C, hO⟩ := law_enter C0
  obtain ⟨hx, hb, hr, hml, hown, hts, hX, hbl, hlocks, hgv⟩ := C0
  have hH : lw_H G s b L xs := ⟨hG, hX, hbl, hL⟩
  have hl := lv_entry ([.ref b]) (n := 4) (Nat.le_of_ble_eq_true rfl)
  rw [lg_entry_eq]
  generalize (lg_sl ([.ref b]) ++ List.replicate (4 - (lg_sl ([.ref b])).length) Slot.unset).toArray = ls at hl ⊢
  have hl : lv_has ls 4 [(0, .ref b)] := hl
  obtain ⟨r1, σ1, e1, r2, σ2, e2, hI⟩ := init_Inv (σ0 := zzr z00 0) (fun o k => by rw [zrd_zz]; split <;> rfl)
  have hend : ∀ (i : Nat) (σ : Zm), zR G p l e room_1 s m #[Value.ref b] below meth c 4 294 24893 (lw_Z below #[Value.ref b] s) 294 ztt (0, z00) σ (some (0, z00)) (lvL G b i) 1734 [] := by
    intro i σ
    refine zr_iconst C (a := 1) dl_1734 rfl ?_
    intro _ ls H locs hl hW hS
    refine W.widen (k := 600000) (n := 7302250) (Nat.le_of_ble_eq_true rfl) (Nat.le_of_ble_eq_true rfl) ?_
    refine va_forget (fun q hq => ?_) (lw_ret hx hb hr hlocks dl_1735)
    have := hS.2.2 q hq
    unfold zA at this
    rw [hG] at this
    exact this
  have K : zR G p l e room_1 s m #[Value.ref b] below meth c 4 0 0 (lw_Z below #[Value.ref b] s) 0 ztt (0, z00) z00 (some (0, z00)) [(0, .ref b)] 0 [] := by
    refine zl_new C (ci := 9) (by decide) lcl_7 lcw_9 (by decide +kernel) ⟨Nat.le_of_ble_eq_true rfl, Nat.le_of_ble_eq_true rfl⟩ dl_0 ?_
    refine zr_dup C dl_3 rfl ?_
    refine zl_init C hO (o := 0) [] lzy_X9_init lzi_X9_init rfl lzk_X9_init ⟨⟨Nat.le_of_ble_eq_true rfl, Nat.le_of_ble_eq_true rfl⟩, Nat.le_of_ble_eq_true rfl, Nat.le_of_ble_eq_true rfl⟩ (fun r hr => zqX_init l G _ _ r hr) rfl rfl (Nat.le_of_ble_eq_true rfl) dl_4 e1 ?_
    refine zr_astoren C (i := 1) (lv' := [(1, .ref (zad G 0)), (0, .ref b)]) dl_7 (by decide) rfl ?_
    refine zl_new C (ci := 10) (by decide) lcl_10 lcw_10 (by decide +kernel) ⟨Nat.le_of_ble_eq_true rfl, Nat.le_of_ble_eq_true rfl⟩ dl_8 ?_
    refine zr_dup C dl_11 rfl ?_
    refine zl_init C hO (o := 273) [] lzy_X10_init lzi_X10_init rfl lzk_X10_init ⟨⟨Nat.le_of_ble_eq_true rfl, Nat.le_of_ble_eq_true rfl⟩, Nat.le_of_ble_eq_true rfl, Nat.le_of_ble_eq_true rfl⟩ (fun r hr => zqM_init l G _ _ (fun p k hp _ => ?_) r hr) rfl rfl (Nat.le_of_ble_eq_true rfl) dl_12 e2 ?_
    · unfold zρf zcan
      rw [if_neg (by omega), if_pos (by omega)]
    refine zr_astoren C (i := 2) (lv' := [(2, .ref (zad G 273)), (1, .ref (zad G 0)), (0, .ref b)]) dl_15 (by decide) rfl ?_
    refine zr_iconst C (a := 0) dl_16 rfl ?_
    refine zr_istoren C (i := 3) (lv' := lvL G b 0) dl_17 (by decide) rfl ?_
    exact law_loop C hH hend 514 0 σ2 (by omega) (by omega) hI
  exact K rfl ls s.heap [] hl ⟨by rw [hG]; rfl, fun o ho => absurd ho (Nat.not_lt_zero o)⟩ va_S.rf

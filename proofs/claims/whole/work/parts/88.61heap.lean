/-! MY OWN: rows of zR over the heap -/
section ZHEAP
variable {G : Zg} {p : Program} {l : Launch} {e : Env} {R : Room} {s : State} {m : MethodId} {args : Array Value} {below : List Frame} {meth : Method} {c : Code} {cc : ByteArray} {nL cells slots : Nat} {own : String} {ret : Option FieldType} {Q : State → Prop} {n : Nat} {ρ : Zp} {res : Int × Zm} {σ : Zm} {ex : Zr} {lv : List (Nat × Value)} {pc q : Nat} {st rest : List Value}
def zFd (own : String) (ix ci k : Nat) (ty : FieldType) : Prop := Cond.fieldLink own ix (zCn ci) (zTt ci k).2.1 (zTt ci k).2.2.1 ∈ ztb ∧ (ci < 11 ∧ k < zNF ci) ∧ zTy ci k = ty
def zFn (own : String) (ix ci k : Nat) (ty : FieldType) (host : String) : Prop := Cond.fieldLinkNest own ix (zCn ci) (zTt ci k).2.1 (zTt ci k).2.2.1 host ∈ znst ∧ (ci < 11 ∧ k < zNF ci) ∧ zTy ci k = ty
def zF (own : String) (ix ci k : Nat) (ty : FieldType) : Prop := zFd own ix ci k ty ∨ ∃ host, zFn own ix ci k ty host
theorem zF.k {ix ci k : Nat} {ty : FieldType} (h : zF own ix ci k ty) : (ci < 11 ∧ k < zNF ci) ∧ zTy ci k = ty := by
  rcases h with h | ⟨_, h⟩ <;> exact h.2
theorem zget {H : Heap} {locs : List Loc} {ls : Array Slot} {o ix ci k : Nat} {ty : FieldType} (C : zC G p s m args meth c cc nL own ret) (F : zF own ix ci k ty) (hi : zin n o ci) (hW : zW G n ρ σ H) {v : Value} (hv : zfv G (ρ o) (zRF o) (σ.1 o) (σ.2 o) ty k = v) (d : decode cc pc = .ok (.getfield ix, 3))
    (kk : W p l e R s m args below meth c H locs cells slots Q (F0 m (pc + 3) ls (v :: rest))) : W p l e R s m args below meth c H locs cells slots Q (F0 m pc ls (.ref (zad G o) :: rest)) := by
  obtain ⟨⟨hc, hk⟩, hty⟩ := F.k
  have hat := hW.2 o hi.2
  rw [zc1_obj hi.1 hc] at hat
  have hfs : (zfs G ci (ρ o) (zRF o) (σ.1 o) (σ.2 o))[k]? = some v := by rw [zfs_at hk, hty, hv]
  rcases F with F | ⟨host, F⟩
  · exact va_get (D := G.1) (C := zCn ci) (T := zTt ci) (N := zNF ci) (ref := zCn ci) C.1 C.2.1 C.2.2.2.2.1 (zin_ws hc) C.2.2.2.1 C.2.2.2.2.2.1.1 (zP1 hat) 0 rfl (zcl_at hc) k hk (C.2.2.2.2.1 _ F.1) (fun x hx => by rw [zown hc k hk] at hx; exact hx) hfs d kk
  · exact va_getN (D := G.1) (C := zCn ci) (T := zTt ci) (N := zNF ci) (ref := zCn ci) (host := host) C.1 C.2.1 C.2.2.2.2.1 (zin_ws hc) C.2.2.2.1 C.2.2.2.2.2.1.1 (zP1 hat) 0 rfl (zcl_at hc) k hk (va_Nw.use (znst_on F.1) (C.2.2.2.2.2.1.2.1 _ F.1)) (fun x hx => by rw [zown hc k hk] at hx; exact hx) hfs d kk
theorem zput {H : Heap} {locs : List Loc} {ls : Array Slot} {o ix ci k : Nat} {ty : FieldType} (C : zC G p s m args meth c cc nL own ret) (F : zF own ix ci k ty) (hfin : (zTt ci k).2.2.2 = false) (hi : zin n o ci) (hW : zW G n ρ σ H) (hS : va_S (zA G) s.heap H locs) {v : Value} (hn : narrow ty v = v) (hfit : fits ty v = true) (d : decode cc pc = .ok (.putfield ix, 3))
    (kk : ∀ (H1 : Heap) (locs1 : List Loc), H1.size = H.size → (∀ q, q ≠ zad G o → H1[q]? = H[q]?) → va_at G.1 zcl (zad G o, .inr (ci, (zfs G ci (ρ o) (zRF o) (σ.1 o) (σ.2 o)).set k v)) H1 → va_S (zA G) s.heap H1 locs1 → W p l e R s m args below meth c H1 locs1 cells slots Q (F0 m (pc + 3) ls rest)) : W p l e R s m args below meth c H locs cells slots Q (F0 m pc ls (v :: .ref (zad G o) :: rest)) := by
  obtain ⟨⟨hc, hk⟩, hty⟩ := F.k
  have hts := C.2.2.2.2.1
  have hin := zin_ws hc
  have hK := C.2.2.2.2.2.1.1
  have hcl := zcl_at hc
  have hap := va_apart (own := own) hts hin (zTy ci) (zty_ok hc) (znm hc) hK hcl
  have hat := hW.2 o hi.2
  rw [zc1_obj hi.1 hc] at hat
  obtain ⟨r, h1, cell, q1, q2, q3, q4⟩ := hat
  have hr : r = (zCn ci, zTt ci, zNF ci) := Option.some.inj (h1.symm.trans hcl)
  subst hr
  obtain ⟨hSl, hfc, kC, hkC, hkind⟩ := hK.1 ci _ hcl
  obtain ⟨cf, kf, fi, f, hif, hsl⟩ := hSl k hk
  have hlay := hts _ (hin _ (u_in_lay hk))
  unfold u_lay at hlay
  rw [if_neg (by rw [hfin]; decide)] at hlay
  have hst := (u_facts hfc hkC (u_lays hts hin hk) hif).1
  have hd : parseFieldDescriptor (zTt ci k).2.2.1 = some ty := by rw [zty_ok hc k hk, hty]
  have h6 := u_store hfc hkC hkind hlay hif hd hn hfit
  have hif2 : s.fieldFound? (zCn ci) (zTt ci k).2.1 (zTt ci k).2.2.1 = some (cf, kf, fi, f) := by
    have h := hif
    dsimp only at h
    rw [zown hc k hk] at h
    exact h
  have fin : ∀ H' : Heap, H'[zad G o]? = some (cell.setSlot f.slot v) → H'.size = H.size → (∀ q, q ≠ zad G o → H'[q]? = H[q]?) → W p l e R s m args below meth c H' (locs ++ [⟨zad G o, f.slot⟩]) cells slots Q (F0 m (pc + 3) ls rest) := by
    intro H' e1 e2 e3
    rw [hsl] at e1 ⊢
    exact kk H' _ e2 e3 ⟨_, hcl, t_OB.to (V := updV (vp_V (zfs G ci (ρ o) (zRF o) (σ.1 o) (σ.2 o))) k v) ⟨_, e1, q2, q3, t_set q4 hap hk v⟩ (fun j _ => vp_updV_set (by rw [zfs_len]; exact hk) v j)⟩ (hS.put e2 e3 (zad_A G o))
  rcases F with F | ⟨host, F⟩
  · exact W.putK C.1 C.2.1 (f := f) ⟨C.2.2.2.1, hts _ F.1, ⟨_, _, _, hif2⟩, hst⟩ (by rw [q2]; exact h6) q1 q3 (by rw [hsl]; exact k2_hasslot (q4 k hk)) rfl rfl d fin
  · exact va_WputK C.1 C.2.1 (f := f) C.2.2.2.1 (va_Nw.use (znst_on F.1) (C.2.2.2.2.2.1.2.1 _ F.1)) hif2 hst (by rw [q2]; exact h6) q1 q3 (by rw [hsl]; exact k2_hasslot (q4 k hk)) rfl rfl d fin
theorem zr_getI (C : zC G p s m args meth c cc nL own ret) {o ix ci fk : Nat} {F : Int → Zr} (f : zF own ix ci fk .int) (hi : zin n o ci) (d : zD cc pc (.getfield ix) 3 q) (k : ∀ v, zw v = v → zR G p l e R s m args below meth c nL cells slots Q n ρ res σ (F v) lv q (.int (zI v) :: st)) : zR G p l e R s m args below meth c nL cells slots Q n ρ res σ (zlet (zrd σ o fk) F) lv pc (.ref (zad G o) :: st) := by
  obtain ⟨d1, rfl⟩ := d
  exact fun he ls H locs hl hW hS => zget C f hi hW (show _ = Value.int (zI (zrd σ o fk)) by rw [zI_rd]; rfl) d1 (k _ (zw_rd _ _ _) he ls H locs hl hW hS)
theorem zr_getZ (C : zC G p s m args meth c cc nL own ret) {o ix ci fk : Nat} {F : Int → Zr} (f : zF own ix ci fk .boolean) (hi : zin n o ci) (d : zD cc pc (.getfield ix) 3 q) (k : ∀ v, zw v = v → zR G p l e R s m args below meth c nL cells slots Q n ρ res σ (F v) lv q (.int (zI v) :: st)) : zR G p l e R s m args below meth c nL cells slots Q n ρ res σ (zlet (zrd σ o fk) F) lv pc (.ref (zad G o) :: st) := by
  obtain ⟨d1, rfl⟩ := d
  exact fun he ls H locs hl hW hS => zget C f hi hW (show _ = Value.int (zI (zrd σ o fk)) by rw [zI_rd]; rfl) d1 (k _ (zw_rd _ _ _) he ls H locs hl hW hS)
theorem zr_getJ (C : zC G p s m args meth c cc nL own ret) {o ix ci fk : Nat} {F : Int → Zr} (f : zF own ix ci fk .long) (hi : zin n o ci) (d : zD cc pc (.getfield ix) 3 q) (k : ∀ v, zx v = v → zR G p l e R s m args below meth c nL cells slots Q n ρ res σ (F v) lv q (.long (zJ v) :: st)) : zR G p l e R s m args below meth c nL cells slots Q n ρ res σ (zlet (zrl σ o fk) F) lv pc (.ref (zad G o) :: st) := by
  obtain ⟨d1, rfl⟩ := d
  exact fun he ls H locs hl hW hS => zget C f hi hW (show _ = Value.long (zJ (zrl σ o fk)) by rw [zJ_rl]; rfl) d1 (k _ (zx_rl _ _ _) he ls H locs hl hW hS)
theorem zr_getR (C : zC G p s m args meth c cc nL own ret) {o ix ci fk t : Nat} {ty : FieldType} (f : zF own ix ci fk ty) (hty : ty.isReference = true) (hi : zin n o ci) (hρ : ρ o fk = true) (ht : zRF o fk = t) (d : zD cc pc (.getfield ix) 3 q) (k : zR G p l e R s m args below meth c nL cells slots Q n ρ res σ ex lv q (.ref (zad G t) :: st)) : zR G p l e R s m args below meth c nL cells slots Q n ρ res σ ex lv pc (.ref (zad G o) :: st) := by
  obtain ⟨d1, rfl⟩ := d
  subst ht
  refine fun he ls H locs hl hW hS => zget C f hi hW ?_ d1 (k he ls H locs hl hW hS)
  cases ty <;> first | (cases hty; done) | (simp only [zfv, hρ, if_true])
theorem zst_upd {G : Zg} {n : Nat} {ρ : Zp} {σ : Zm} {H H1 : Heap} {o ci k : Nat} {v : Int} (hc : ci < 11) (hi : zSH o = ci) (hty : zTy ci k = .int ∨ zTy ci k = .boolean) (hW : zW G n ρ σ H) (z : H1.size = H.size) (oq : ∀ q, q ≠ zad G o → H1[q]? = H[q]?) (hat : va_at G.1 zcl (zad G o, .inr (ci, (zfs G ci (ρ o) (zRF o) (σ.1 o) (σ.2 o)).set k (.int (zI v)))) H1) : zW G n ρ (zst σ o k v) H1 := by
  refine hW.upd (o := o) z oq ?_ (fun p hp => zc1_st hp)
  rw [zc1_obj hi hc, ← zfs_set (k := k) (v := .int (zI v)) (r := ρ o) (i := σ.1 o) (j := σ.2 o) (i' := (zst σ o k v).1 o) (j' := (zst σ o k v).2 o) (r' := ρ o)]
  · exact hat
  · rcases hty with h | h <;> simp [zfv, h, zst]
  · intro q hq
    refine ⟨rfl, ?_, rfl⟩
    simp [zst, hq]
theorem zsl_upd {G : Zg} {n : Nat} {ρ : Zp} {σ : Zm} {H H1 : Heap} {o ci k : Nat} {v : Int} (hc : ci < 11) (hi : zSH o = ci) (hty : zTy ci k = .long) (hW : zW G n ρ σ H) (z : H1.size = H.size) (oq : ∀ q, q ≠ zad G o → H1[q]? = H[q]?) (hat : va_at G.1 zcl (zad G o, .inr (ci, (zfs G ci (ρ o) (zRF o) (σ.1 o) (σ.2 o)).set k (.long (zJ v)))) H1) : zW G n ρ (zsl σ o k v) H1 := by
  refine hW.upd (o := o) z oq ?_ (fun p hp => zc1_sl hp)
  rw [zc1_obj hi hc, ← zfs_set (k := k) (v := .long (zJ v)) (r := ρ o) (i := σ.1 o) (j := σ.2 o) (i' := (zsl σ o k v).1 o) (j' := (zsl σ o k v).2 o) (r' := ρ o)]
  · exact hat
  · simp [zfv, hty, zsl]
  · intro q hq
    refine ⟨rfl, rfl, ?_⟩
    simp [zsl, hq]
theorem zr_putI (C : zC G p s m args meth c cc nL own ret) {o ix ci fk : Nat} {v : Int} {F : Zm → Zr} (f : zF own ix ci fk .int) (hfin : (zTt ci fk).2.2.2 = false) (hi : zin n o ci) (d : zD cc pc (.putfield ix) 3 q) (k : ∀ σ', zR G p l e R s m args below meth c nL cells slots Q n ρ res σ' (F σ') lv q st) : zR G p l e R s m args below meth c nL cells slots Q n ρ res σ (zlet (zst σ o fk v) F) lv pc (.int (zI v) :: .ref (zad G o) :: st) := by
  obtain ⟨d1, rfl⟩ := d
  refine fun he ls H locs hl hW hS => zput C f hfin hi hW hS rfl rfl d1 (fun H1 locs1 z oq hat hS1 => k _ he ls H1 locs1 hl (zst_upd f.k.1.1 hi.1 (Or.inl f.k.2) hW z oq hat) hS1)
theorem zr_putZ (C : zC G p s m args meth c cc nL own ret) {o ix ci fk : Nat} {v : Int} {F : Zm → Zr} (f : zF own ix ci fk .boolean) (hfin : (zTt ci fk).2.2.2 = false) (hi : zin n o ci) (hv : v = 0 ∨ v = 1) (d : zD cc pc (.putfield ix) 3 q) (k : ∀ σ', zR G p l e R s m args below meth c nL cells slots Q n ρ res σ' (F σ') lv q st) : zR G p l e R s m args below meth c nL cells slots Q n ρ res σ (zlet (zst σ o fk v) F) lv pc (.int (zI v) :: .ref (zad G o) :: st) := by
  obtain ⟨d1, rfl⟩ := d
  refine fun he ls H locs hl hW hS => zput C f hfin hi hW hS (by rcases hv with rfl | rfl <;> rfl) (by rcases hv with rfl | rfl <;> rfl) d1 (fun H1 locs1 z oq hat hS1 => k _ he ls H1 locs1 hl (zst_upd f.k.1.1 hi.1 (Or.inr f.k.2) hW z oq hat) hS1)
theorem zr_putJ (C : zC G p s m args meth c cc nL own ret) {o ix ci fk : Nat} {v : Int} {F : Zm → Zr} (f : zF own ix ci fk .long) (hfin : (zTt ci fk).2.2.2 = false) (hi : zin n o ci) (d : zD cc pc (.putfield ix) 3 q) (k : ∀ σ', zR G p l e R s m args below meth c nL cells slots Q n ρ res σ' (F σ') lv q st) : zR G p l e R s m args below meth c nL cells slots Q n ρ res σ (zlet (zsl σ o fk v) F) lv pc (.long (zJ v) :: .ref (zad G o) :: st) := by
  obtain ⟨d1, rfl⟩ := d
  refine fun he ls H locs hl hW hS => zput C f hfin hi hW hS rfl rfl d1 (fun H1 locs1 z oq hat hS1 => k _ he ls H1 locs1 hl (zsl_upd f.k.1.1 hi.1 f.k.2 hW z oq hat) hS1)
theorem zck_some {i : Int} {N : Nat} {e1 : Zr} {r : Int × Zm} (h : zck i N e1 = some r) : (0 ≤ i ∧ i < (N : Int)) ∧ e1 = some r := by
  unfold zck at h
  split at h
  · exact ⟨by assumption, h⟩
  · cases h
theorem zr_iald (C : zC G p s m args meth c cc nL own ret) {o N : Nat} {i j : Int} {F : Int → Zr} (hi : zin n o 20) (hN : zLN o = N) (hj : zw i = j) (d : zD cc pc .iaload 1 q) (k : ∀ v, zw v = v → zR G p l e R s m args below meth c nL cells slots Q n ρ res σ (F v) lv q (.int (zI v) :: st)) : zR G p l e R s m args below meth c nL cells slots Q n ρ res σ (zck j N (zlet (zrd σ o j.toNat) F)) lv pc (.int (zI i) :: .ref (zad G o) :: st) := by
  obtain ⟨d1, rfl⟩ := d
  subst hN hj
  intro he ls H locs hl hW hS
  obtain ⟨h1, he⟩ := zck_some he
  have hat := hW.2 o hi.2
  rw [zc1_20 hi.1] at hat
  refine va_iald C.1 C.2.1 C.2.2.2.2.2.1.1 (zP1 hat) 0 0 rfl rfl (zI_in h1) d1 ?_
  have e1 : σ.1 o (zI i).toNatClampNeg = zI (zrd σ o (zw i).toNat) := (zI_rd _ _ _).symm
  rw [e1]
  exact k _ (zw_rd _ _ _) he ls H locs hl hW hS
theorem zr_zald (C : zC G p s m args meth c cc nL own ret) {o N : Nat} {i j : Int} {F : Int → Zr} (hi : zin n o 21) (hN : zLN o = N) (hj : zw i = j) (d : zD cc pc .baload 1 q) (k : ∀ v, zw v = v → zR G p l e R s m args below meth c nL cells slots Q n ρ res σ (F v) lv q (.int (zI v) :: st)) : zR G p l e R s m args below meth c nL cells slots Q n ρ res σ (zck j N (zlet (zrd σ o j.toNat) F)) lv pc (.int (zI i) :: .ref (zad G o) :: st) := by
  obtain ⟨d1, rfl⟩ := d
  subst hN hj
  intro he ls H locs hl hW hS
  obtain ⟨h1, he⟩ := zck_some he
  have hat := hW.2 o hi.2
  rw [zc1_21 hi.1] at hat
  refine va_zald C.1 C.2.1 C.2.2.2.2.2.1.1 (zP1 hat) 0 1 rfl rfl (zI_in h1) d1 ?_
  have e1 : σ.1 o (zI i).toNatClampNeg = zI (zrd σ o (zw i).toNat) := (zI_rd _ _ _).symm
  rw [e1]
  exact k _ (zw_rd _ _ _) he ls H locs hl hW hS
theorem zr_lald (C : zC G p s m args meth c cc nL own ret) {o N : Nat} {i j : Int} {F : Int → Zr} (hi : zin n o 22) (hN : zLN o = N) (hj : zw i = j) (d : zD cc pc .laload 1 q) (k : ∀ v, zx v = v → zR G p l e R s m args below meth c nL cells slots Q n ρ res σ (F v) lv q (.long (zJ v) :: st)) : zR G p l e R s m args below meth c nL cells slots Q n ρ res σ (zck j N (zlet (zrl σ o j.toNat) F)) lv pc (.int (zI i) :: .ref (zad G o) :: st) := by
  obtain ⟨d1, rfl⟩ := d
  subst hN hj
  intro he ls H locs hl hW hS
  obtain ⟨h1, he⟩ := zck_some he
  have hat := hW.2 o hi.2
  rw [zc1_22 hi.1] at hat
  refine va_lald C.1 C.2.1 C.2.2.2.2.2.1.1 (zP1 hat) 0 2 rfl rfl (zI_in h1) d1 ?_
  have e1 : σ.2 o (zI i).toNatClampNeg = zJ (zrl σ o (zw i).toNat) := (zJ_rl _ _ _).symm
  rw [e1]
  exact k _ (zx_rl _ _ _) he ls H locs hl hW hS
theorem zr_iast (C : zC G p s m args meth c cc nL own ret) {o N : Nat} {i j v : Int} {F : Zm → Zr} (hi : zin n o 20) (hN : zLN o = N) (hj : zw i = j) (d : zD cc pc .iastore 1 q) (k : ∀ σ', zR G p l e R s m args below meth c nL cells slots Q n ρ res σ' (F σ') lv q st) : zR G p l e R s m args below meth c nL cells slots Q n ρ res σ (zck j N (zlet (zst σ o j.toNat v) F)) lv pc (.int (zI v) :: .int (zI i) :: .ref (zad G o) :: st) := by
  obtain ⟨d1, rfl⟩ := d
  subst hN hj
  intro he ls H locs hl hW hS
  obtain ⟨h1, he⟩ := zck_some he
  have hat := hW.2 o hi.2
  rw [zc1_20 hi.1] at hat
  have hin := zI_in h1
  refine W.iast C.1 C.2.1 hat ((C.2.2.2.2.2.1.1.2 0 (G.2.1 0, .int) rfl).1 (zLN o) (fun j => .int (σ.1 o j))) (fun z => by cases z) (by show ¬ (zI i < 0 ∨ (arrV _ _ _).slots.size ≤ _); rw [arrV_size]; exact hin) rfl rfl d1 fun H1 e1 z oq => ?_
  refine k _ he ls H1 _ hl (hW.upd (o := o) z oq ?_ (fun p hp => zc1_st hp)) (hS.put z oq (zad_A G o))
  rw [zc1_20 hi.1]
  show H1[zad G o]? = some (vp_cell _ _)
  rw [e1]
  rw [vp_cell_i, vp_cell_i, arrV_store]
  congr 2
  funext q
  by_cases hq : q = (zI i).toNatClampNeg
  · subst hq
    simp [updV, zst, zI_cl]
  · rw [zI_cl] at hq
    simp [updV, zst, zI_cl, hq]
theorem zr_zast (C : zC G p s m args meth c cc nL own ret) {o N : Nat} {i j v : Int} {F : Zm → Zr} (hi : zin n o 21) (hN : zLN o = N) (hj : zw i = j) (hv : v = 0 ∨ v = 1) (d : zD cc pc .bastore 1 q) (k : ∀ σ', zR G p l e R s m args below meth c nL cells slots Q n ρ res σ' (F σ') lv q st) : zR G p l e R s m args below meth c nL cells slots Q n ρ res σ (zck j N (zlet (zst σ o j.toNat v) F)) lv pc (.int (zI v) :: .int (zI i) :: .ref (zad G o) :: st) := by
  obtain ⟨d1, rfl⟩ := d
  subst hN hj
  intro he ls H locs hl hW hS
  obtain ⟨h1, he⟩ := zck_some he
  have hat := hW.2 o hi.2
  rw [zc1_21 hi.1] at hat
  have hin := zI_in h1
  have hnr : narrow .boolean (.int (zI v)) = .int (zI v) := by rcases hv with rfl | rfl <;> rfl
  refine W.zast C.1 C.2.1 hat ((C.2.2.2.2.2.1.1.2 1 (G.2.1 1, .boolean) rfl).1 (zLN o) (fun j => .int (σ.1 o j))) (fun z => by cases z) (by show ¬ (zI i < 0 ∨ (arrV _ _ _).slots.size ≤ _); rw [arrV_size]; exact hin) rfl rfl d1 fun H1 e1 z oq => ?_
  refine k _ he ls H1 _ hl (hW.upd (o := o) z oq ?_ (fun p hp => zc1_st hp)) (hS.put z oq (zad_A G o))
  rw [zc1_21 hi.1]
  show H1[zad G o]? = some (vp_cell _ _)
  rw [e1, hnr]
  rw [vp_cell_i, vp_cell_i, arrV_store]
  congr 2
  funext q
  by_cases hq : q = (zI i).toNatClampNeg
  · subst hq
    simp [updV, zst, zI_cl]
  · rw [zI_cl] at hq
    simp [updV, zst, zI_cl, hq]
theorem zr_last (C : zC G p s m args meth c cc nL own ret) {o N : Nat} {i j v : Int} {F : Zm → Zr} (hi : zin n o 22) (hN : zLN o = N) (hj : zw i = j) (d : zD cc pc .lastore 1 q) (k : ∀ σ', zR G p l e R s m args below meth c nL cells slots Q n ρ res σ' (F σ') lv q st) : zR G p l e R s m args below meth c nL cells slots Q n ρ res σ (zck j N (zlet (zsl σ o j.toNat v) F)) lv pc (.long (zJ v) :: .int (zI i) :: .ref (zad G o) :: st) := by
  obtain ⟨d1, rfl⟩ := d
  subst hN hj
  intro he ls H locs hl hW hS
  obtain ⟨h1, he⟩ := zck_some he
  have hat := hW.2 o hi.2
  rw [zc1_22 hi.1] at hat
  have hin := zI_in h1
  refine W.last C.1 C.2.1 hat ((C.2.2.2.2.2.1.1.2 2 (G.2.1 2, .long) rfl).1 (zLN o) (fun j => .long (σ.2 o j))) (fun z => by cases z) (by show ¬ (zI i < 0 ∨ (arrV _ _ _).slots.size ≤ _); rw [arrV_size]; exact hin) rfl rfl d1 fun H1 e1 z oq => ?_
  refine k _ he ls H1 _ hl (hW.upd (o := o) z oq ?_ (fun p hp => zc1_sl hp)) (hS.put z oq (zad_A G o))
  rw [zc1_22 hi.1]
  show H1[zad G o]? = some (vp_cell _ _)
  rw [e1]
  rw [vp_cell_l, vp_cell_l, arrV_store]
  congr 2
  funext q
  by_cases hq : q = (zI i).toNatClampNeg
  · subst hq
    simp [updV, zsl, zI_cl]
  · rw [zI_cl] at hq
    simp [updV, zsl, zI_cl, hq]
theorem zr_aald23 (C : zC G p s m args meth c cc nL own ret) {o N : Nat} {i j : Int} (hi : zin n o 23) (hN : zLN o = N) (hj : zw i = j) (hρ : ∀ k, k < N → ρ o k = true) (d : zD cc pc .aaload 1 q) (k : 0 ≤ j ∧ j < (N : Int) → zR G p l e R s m args below meth c nL cells slots Q n ρ res σ ex lv q (.ref (zad G (zRF o j.toNat)) :: st)) : zR G p l e R s m args below meth c nL cells slots Q n ρ res σ (zck j N ex) lv pc (.int (zI i) :: .ref (zad G o) :: st) := by
  obtain ⟨d1, rfl⟩ := d
  subst hN hj
  intro he ls H locs hl hW hS
  obtain ⟨h1, he⟩ := zck_some he
  have hat := hW.2 o hi.2
  rw [zc1_23 hi.1] at hat
  refine va_aldq (C := "BrokenFugue$Line") C.1 C.2.1 C.2.2.2.2.2.1.1 (zP1 hat) 0 3 rfl rfl (zI_in h1) d1 ?_
  have e1 : va_rf (zrs G (ρ o) (zRF o) (zI i).toNatClampNeg) = .ref (zad G (zRF o (zw i).toNat)) := by
    unfold zrs
    rw [zI_cl, if_pos (hρ _ (by omega))]
    rfl
  rw [e1]
  exact k h1 he ls H locs hl hW hS
theorem zr_aald24 (C : zC G p s m args meth c cc nL own ret) {o N : Nat} {i j : Int} (hi : zin n o 24) (hN : zLN o = N) (hj : zw i = j) (hρ : ∀ k, k < N → ρ o k = true) (d : zD cc pc .aaload 1 q) (k : 0 ≤ j ∧ j < (N : Int) → zR G p l e R s m args below meth c nL cells slots Q n ρ res σ ex lv q (.ref (zad G (zRF o j.toNat)) :: st)) : zR G p l e R s m args below meth c nL cells slots Q n ρ res σ (zck j N ex) lv pc (.int (zI i) :: .ref (zad G o) :: st) := by
  obtain ⟨d1, rfl⟩ := d
  subst hN hj
  intro he ls H locs hl hW hS
  obtain ⟨h1, he⟩ := zck_some he
  have hat := hW.2 o hi.2
  rw [zc1_24 hi.1] at hat
  refine va_aldq (C := "BrokenFugue$Rules") C.1 C.2.1 C.2.2.2.2.2.1.1 (zP1 hat) 0 4 rfl rfl (zI_in h1) d1 ?_
  have e1 : va_rf (zrs G (ρ o) (zRF o) (zI i).toNatClampNeg) = .ref (zad G (zRF o (zw i).toNat)) := by
    unfold zrs
    rw [zI_cl, if_pos (hρ _ (by omega))]
    rfl
  rw [e1]
  exact k h1 he ls H locs hl hW hS
end ZHEAP

/-! MY OWN: at; the memory behind the constructors -/
theorem st_at (x1 x2 x3 : Int) : St (fun σ => fX_at σ x1 x2 x3) (fun σ => fM_at σ x1 x2 x3) := by
  intro σ h
  have hI := h
  obtain ⟨w, p, g, gp, hX, hM, hXT, hMP⟩ := h
  show zwp (fX_at σ x1 x2 x3) (fun r1 σ1 => zwp (fM_at σ1 x1 x2 x3) (fun r2 σ2 => r1 = r2 ∧ Inv σ2))
  by_cases c1 : 0 ≤ x1 ∧ x1 ≤ 3
  · by_cases c2 : 0 ≤ x2 ∧ x2 ≤ 3
    · by_cases c3 : 0 ≤ x3 ∧ x3 ≤ 31
      · obtain ⟨i, hi, hi4⟩ := nat_of (x := x1) (n := 4) (by omega)
        obtain ⟨v, hv, hv4⟩ := nat_of (x := x2) (n := 4) (by omega)
        obtain ⟨t, ht, ht32⟩ := nat_of (x := x3) (n := 32) (by omega)
        subst hi hv ht
        obtain ⟨a1, a2⟩ := so_voice (o := 1) (Or.inl rfl) (4 * i + v) (by omega)
        obtain ⟨b1, b2⟩ := hX.1.1 (4 * i + v) (by omega)
        have hvk := (g.1.1 (4 * i + v) t).1
        have em : zrd σ 274 (10 + 32 * (4 * i + v) + t) = ce (wV w (4 * i + v) t) := hM.1.1 (4 * i + v) t (by omega) ht32
        have el : wV w (4 * i + v) t = if t < 32 ∧ zrd σ (1 + 8 + 3 * (4 * i + v) + 2) t ≠ 0 then (zrd σ (1 + 8 + 3 * (4 * i + v) + 2) t, zrd σ (1 + 8 + 3 * (4 * i + v) + 1) t) else (0, 0) := by rw [← b1]; rfl
        have e1 : fX_at σ (i : Int) (v : Int) (t : Int) = some (ce (wV w (4 * i + v) t), σ) := by
          unfold fX_at
          rw [xPiece_t c1, if_neg (by decide), xVoice_t c2, if_neg (by decide), pwithin_t c3, if_pos (by decide), show zw ((i : Int) * 4 + (v : Int)) = ((4 * i + v : Nat) : Int) by rw [zwj (by omega) (by omega)]; omega, zckj (by omega) (by omega), Int.toNat_natCast, Int.toNat_natCast, show zRF 2 (4 * i + v) = 1 + 8 + 3 * (4 * i + v) from a1, a2.2, a2.1, zckj (by omega) (by omega)]
          dsimp only [zlet]
          by_cases c0 : zrd σ (1 + 8 + 3 * (4 * i + v) + 2) t = 0
          · rw [ifnn c0, el, if_neg (fun z => z.2 c0)]; rfl
          · rw [if_pos c0, zckj (by omega) (by omega)]
            rw [if_pos ⟨ht32, c0⟩] at el
            rw [el] at hvk
            have h12 : zrd σ (1 + 8 + 3 * (4 * i + v) + 2) t = 1 ∨ zrd σ (1 + 8 + 3 * (4 * i + v) + 2) t = 2 := by
              rcases hvk with z | z
              · have : zrd σ (1 + 8 + 3 * (4 * i + v) + 2) t = 0 := congrArg Prod.fst z
                exact absurd this c0
              · exact z.1
            rw [el]
            unfold ce
            rw [if_neg c0]
            by_cases c2' : zrd σ (1 + 8 + 3 * (4 * i + v) + 2) t = 2
            · rw [ifnn c2', zckj (by omega) (by omega), if_neg (by omega)]
            · rw [if_pos c2', zckj (by omega) (by omega), if_pos (by omega)]
        have e2 : fM_at σ (i : Int) (v : Int) (t : Int) = some (ce (wV w (4 * i + v) t), σ) := by
          have hs : fM_spot σ (i : Int) (v : Int) (t : Int) = some (((10 + 32 * (4 * i + v) + t : Nat) : Int), σ) := by
            unfold fM_spot
            congr 2
            omega
          unfold fM_at
          rw [mPiece_t c1, if_neg (by decide), mVoice_t c2, if_neg (by decide), mIn_t c3, if_neg (by decide), zbi_eq hs, zwj (a := ((10 + 32 * (4 * i + v) + t : Nat) : Int)) (by omega) (by omega), zckj (by omega) (by omega), Int.toNat_natCast]
          dsimp only [zlet]
          rw [em]
        exact St_neg (G := fun σ => fM_at σ (i : Int) (v : Int) (t : Int)) hI e1 e2
      · have e1 : fX_at σ x1 x2 x3 = some (-1, σ) := by
          unfold fX_at
          rw [xPiece_t c1, if_neg (by decide), xVoice_t c2, if_neg (by decide), pwithin_f c3, if_neg (by decide)]
        have e2 : fM_at σ x1 x2 x3 = some (-1, σ) := by
          unfold fM_at
          rw [mPiece_t c1, if_neg (by decide), mVoice_t c2, if_neg (by decide), mIn_f c3, if_pos rfl]
        exact St_neg (G := fun σ => fM_at σ x1 x2 x3) hI e1 e2
    · have e1 : fX_at σ x1 x2 x3 = some (-1, σ) := by
        unfold fX_at
        rw [xPiece_t c1, if_neg (by decide), xVoice_f c2, if_pos rfl]
      have e2 : fM_at σ x1 x2 x3 = some (-1, σ) := by
        unfold fM_at
        rw [mPiece_t c1, if_neg (by decide), mVoice_f c2, if_pos rfl]
      exact St_neg (G := fun σ => fM_at σ x1 x2 x3) hI e1 e2
  · have e1 : fX_at σ x1 x2 x3 = some (-1, σ) := by
      unfold fX_at
      rw [xPiece_f c1, if_pos rfl]
    have e2 : fM_at σ x1 x2 x3 = some (-1, σ) := by
      unfold fM_at
      rw [mPiece_f c1, if_pos rfl]
    exact St_neg (G := fun σ => fM_at σ x1 x2 x3) hI e1 e2
/-! the constructors -/
theorem zrd_zz (σ : Zm) (o p k : Nat) : zrd (zzr σ o) p k = if p = o then 0 else zrd σ p k := by
  unfold zrd zzr
  dsimp only
  split
  · rfl
  · rfl
theorem zzr_fo {D : Nat → Prop} {σ : Zm} {o : Nat} (h : D o) : zfo D σ (zzr σ o) := by
  intro q hq
  have : q ≠ o := fun z => hq (by rw [z]; exact h)
  refine ⟨?_, ?_⟩
  · funext j; unfold zzr; dsimp only; rw [if_neg this]
  · funext j; unfold zzr; dsimp only; rw [if_neg this]
theorem zzs_fo {D : Nat → Prop} {σ : Zm} {o k : Nat} (h : ∀ q, o ≤ q → q < o + k → D q) : zfo D σ (zzs σ o k) := by
  intro q hq
  have : ¬ (o ≤ q ∧ q < o + k) := fun z => hq (h q z.1 z.2)
  refine ⟨?_, ?_⟩
  · funext j; unfold zzs; dsimp only; rw [if_neg this]
  · funext j; unfold zzs; dsimp only; rw [if_neg this]
theorem zrd_zs (σ : Zm) (o k p j : Nat) : zrd (zzs σ o k) p j = if o ≤ p ∧ p < o + k then 0 else zrd σ p j := by
  unfold zrd zzs
  dsimp only
  split
  · rfl
  · rfl
/-- zero but for places D; only objects E differ -/
def ZI (D : Nat → Nat → Prop) (E : Nat → Prop) (σ0 σ : Zm) : Prop := zfo E σ0 σ ∧ ∀ o k, ¬ D o k → zrd σ o k = 0
section ZI
variable {D : Nat → Nat → Prop} {E : Nat → Prop} {σ0 σ : Zm} {P : Int → Zm → Prop}
theorem ZI_zz {o : Nat} {F : Zm → Zr} (h : ZI D E σ0 σ) (ho : E o) (hF : ∀ σ', ZI D E σ0 σ' → zwp (F σ') P) : zwp (zlet (zzr σ o) F) P := by
  refine hF _ ⟨h.1.tr (zzr_fo ho), fun p k hp => ?_⟩
  rw [zrd_zz]
  split
  · rfl
  · exact h.2 p k hp
theorem ZI_zs {o k : Nat} {F : Zm → Zr} (h : ZI D E σ0 σ) (ho : ∀ q, o ≤ q → q < o + k → E q) (hF : ∀ σ', ZI D E σ0 σ' → zwp (F σ') P) : zwp (zlet (zzs σ o k) F) P := by
  refine hF _ ⟨h.1.tr (zzs_fo ho), fun p j hp => ?_⟩
  rw [zrd_zs]
  split
  · rfl
  · exact h.2 p j hp
theorem ZI_st {o k : Nat} {v : Int} {F : Zm → Zr} (h : ZI D E σ0 σ) (ho : E o) (hd : D o k ∨ zw v = 0) (hF : ∀ σ', ZI D E σ0 σ' → (∀ p j, zrd σ' p j = if p = o ∧ j = k then zw v else zrd σ p j) → zwp (F σ') P) : zwp (zlet (zst σ o k v) F) P := by
  refine hF _ ⟨h.1.st ho, fun p j hp => ?_⟩ (zrd_st σ o k v)
  rw [zrd_st]
  split
  · rename_i c
    rcases hd with z | z
    · rw [c.1, c.2] at hp; exact absurd z hp
    · exact z
  · exact h.2 p j hp
theorem ZI_L {o : Nat} {A : Int} {F : Zm → Zr} (h : ZI D E σ0 σ) (h1 : E (o + 1)) (h2 : E (o + 2)) (hF : ∀ σ', ZI D E σ0 σ' → zwp (F σ') P) : zwp (zbv (fL_init σ o A) F) P := by
  rw [zwp_bv]
  unfold fL_init
  rw [zwp_let]
  refine ZI_zz h h1 (fun σ1 z1 => ?_)
  rw [zwp_let]
  refine ZI_zz z1 h2 (fun σ2 z2 => ?_)
  rw [zwp_some]
  exact hF σ2 z2
theorem ZI_J {o : Nat} {F : Zm → Zr} (h : ZI D E σ0 σ) (hE : ∀ q, o ≤ q → q ≤ o + 3 → E q) (hD : ∀ k, D o k) (hF : ∀ σ', ZI D E σ0 σ' → zwp (F σ') P) : zwp (zbv (fJ_init σ o) F) P := by
  rw [zwp_bv]
  unfold fJ_init
  refine ZI_zz h (hE _ (by omega) (by omega)) (fun σ1 z1 => ?_)
  refine ZI_zz z1 (hE _ (by omega) (by omega)) (fun σ2 z2 => ?_)
  refine ZI_zz z2 (hE _ (by omega) (by omega)) (fun σ3 z3 => ?_)
  have h0 := hE o (by omega) (by omega)
  refine ZI_st z3 h0 (Or.inl (hD _)) (fun σ4 z4 _ => ?_)
  refine ZI_st z4 h0 (Or.inl (hD _)) (fun σ5 z5 _ => ?_)
  refine ZI_st z5 h0 (Or.inl (hD _)) (fun σ6 z6 _ => ?_)
  refine ZI_st z6 h0 (Or.inl (hD _)) (fun σ7 z7 _ => ?_)
  refine ZI_st z7 h0 (Or.inl (hD _)) (fun σ8 z8 _ => ?_)
  refine ZI_st z8 h0 (Or.inl (hD _)) (fun σ9 z9 _ => ?_)
  rw [zwp_some]
  exact hF σ9 z9
theorem ZI_T {o : Nat} {F : Zm → Zr} (h : ZI D E σ0 σ) (hE : ∀ q, o ≤ q → q ≤ o + 2 → E q) (hF : ∀ σ', ZI D E σ0 σ' → zwp (F σ') P) : zwp (zbv (fT_init σ o) F) P := by
  rw [zwp_bv]
  unfold fT_init
  refine ZI_zz h (hE _ (by omega) (by omega)) (fun σ1 z1 => ?_)
  refine ZI_zz z1 (hE _ (by omega) (by omega)) (fun σ2 z2 => ?_)
  refine ZI_st z2 (hE _ (by omega) (by omega)) (Or.inr rfl) (fun σ3 z3 _ => ?_)
  refine ZI_st z3 (hE _ (by omega) (by omega)) (Or.inr rfl) (fun σ4 z4 _ => ?_)
  rw [zwp_some]
  exact hF σ4 z4
theorem ZI_U {o : Nat} {F : Zm → Zr} (h : ZI D E σ0 σ) (hE : ∀ q, o ≤ q → q ≤ o + 5 → E q) (hF : ∀ σ', ZI D E σ0 σ' → zwp (F σ') P) : zwp (zbv (fU_init σ o) F) P := by
  rw [zwp_bv]
  unfold fU_init
  refine ZI_zz h (hE _ (by omega) (by omega)) (fun σ1 z1 => ?_)
  refine ZI_zz z1 (hE _ (by omega) (by omega)) (fun σ2 z2 => ?_)
  refine ZI_zz z2 (hE _ (by omega) (by omega)) (fun σ3 z3 => ?_)
  refine ZI_zz z3 (hE _ (by omega) (by omega)) (fun σ4 z4 => ?_)
  refine ZI_zz z4 (hE _ (by omega) (by omega)) (fun σ5 z5 => ?_)
  refine ZI_st z5 (hE _ (by omega) (by omega)) (Or.inr rfl) (fun σ6 z6 _ => ?_)
  refine ZI_st z6 (hE _ (by omega) (by omega)) (Or.inr rfl) (fun σ7 z7 _ => ?_)
  rw [zwp_some]
  exact hF σ7 z7
theorem ZI_lines {o a : Nat} {N : Int} {f : Nat → Int → Zm → (Zm → Zr) → Zr} {n : Nat} {K : Zm → Zr} (hn : n ≤ 40) (hf : ∀ (m j : Nat) (σ : Zm), f (m + 1) (j : Int) σ K = if (n : Int) ≤ (j : Int) then K σ else zlet (zzr σ (o + a + 3 * j)) fun σ1 => zbv (fL_init σ1 (o + a + 3 * j) N) fun σ2 => f m (zw ((j : Int) + 1)) σ2 K) (hE : ∀ q, o + a ≤ q → q < o + a + 3 * n → E q) (hK : ∀ σ', ZI D E σ0 σ' → zwp (K σ') P) : ∀ (d m j : Nat) (σ : Zm), d < m → j + d = n → ZI D E σ0 σ → zwp (f m (j : Int) σ K) P
  | 0, m + 1, j, σ, _, hj, h => by
    rw [hf, if_pos (by omega)]
    exact hK σ h
  | d + 1, m + 1, j, σ, hm, hj, h => by
    rw [hf, if_neg (by omega)]
    refine ZI_zz h (hE _ (by omega) (by omega)) (fun σ1 z1 => ?_)
    refine ZI_L z1 (hE _ (by omega) (by omega)) (hE _ (by omega) (by omega)) (fun σ2 z2 => ?_)
    rw [show zw ((j : Int) + 1) = ((j + 1 : Nat) : Int) by rw [zwj (by omega) (by omega)]; omega]
    exact ZI_lines hn hf hE hK d m (j + 1) σ2 (by omega) (by omega) z2
end ZI
/-- what may lie there that isn't zero -/
def iD (o k : Nat) : Prop := (o = 1 ∧ k = 7) ∨ (o = 75 ∧ k = 7) ∨ o = 4 ∨ o = 78 ∨ (o = 150 ∧ k ≠ 2) ∨ (153 ≤ o ∧ o ≤ 224)
theorem ZI_S {E : Nat → Prop} {σ0 σ : Zm} {P : Int → Zm → Prop} {o : Nat} {F : Zm → Zr} (ho : o = 1 ∨ o = 75) (h : ZI iD E σ0 σ) (hE : ∀ q, o ≤ q → q ≤ o + 73 → E q) (hF : ∀ σ', ZI iD E σ0 σ' → zfo (fun q => o ≤ q ∧ q ≤ o + 73) σ σ' → zrd σ' o 7 = 4 → (∀ k, k < 4 → zrd σ' (o + 3) k = -1) → zwp (F σ') P) : zwp (zbv (fS_init σ o) F) P := by
  rw [zwp_bv]
  have h0 : ZI iD (fun q => o ≤ q ∧ q ≤ o + 73) σ σ := ⟨zfo.rf, h.2⟩
  have hL4 : zLN (o + 3) = 4 := by
    rcases ho with z | z
    · rw [z]; decide +kernel
    · rw [z]; decide +kernel
  unfold fS_init
  refine ZI_zz h0 (by omega) (fun σ1 z1 => ?_)
  refine ZI_zz z1 (by omega) (fun σ2 z2 => ?_)
  refine ZI_zz z2 (by omega) (fun σ3 z3 => ?_)
  refine ZI_zz z3 (by omega) (fun σ4 z4 => ?_)
  refine ZI_zz z4 (by omega) (fun σ5 z5 => ?_)
  refine ZI_zz z5 (by omega) (fun σ6 z6 => ?_)
  refine ZI_zz z6 (by omega) (fun σ7 z7 => ?_)
  refine ZI_st z7 (by omega) (Or.inl (by unfold iD; omega)) (fun σ8 z8 e8 => ?_)
  refine ZI_st z8 (by omega) (Or.inr rfl) (fun σ9 z9 e9 => ?_)
  refine ZI_st z9 (by omega) (Or.inr rfl) (fun σa za ea => ?_)
  refine ZI_st za (by omega) (Or.inr rfl) (fun σb zb' eb => ?_)
  have e7 : zrd σb o 7 = 4 := by rw [eb, if_neg (by omega), ea, if_neg (by omega), e9, if_neg (by omega), e8, if_pos ⟨rfl, rfl⟩]; rfl
  -- the lines keep the numbers
  have hb : ZI iD (fun q => o + 8 ≤ q ∧ q ≤ o + 73) σb σb := ⟨zfo.rf, zb'.2⟩
  refine ZI_lines (D := iD) (E := fun q => o + 8 ≤ q ∧ q ≤ o + 73) (σ0 := σb) (o := o) (a := 8) (N := 32) (n := 16) (f := fun m j σ K => fS_init_83 m o j σ K) (by omega) (fun m j σ => by show fS_init_83 (m + 1) o (j : Int) σ _ = _; rw [fS_init_83, Int.toNat_natCast]; first | done | rfl) (fun q a b => by omega) (fun σc zc => ?_) 16 5000 0 σb (by omega) (by omega) hb
  refine ZI_lines (D := iD) (E := fun q => o + 8 ≤ q ∧ q ≤ o + 73) (σ0 := σb) (o := o) (a := 56) (N := 12) (n := 6) (f := fun m j σ K => fS_init_115 m o j σ K) (by omega) (fun m j σ => by show fS_init_115 (m + 1) o (j : Int) σ _ = _; rw [fS_init_115, Int.toNat_natCast]; first | done | rfl) (fun q a b => by omega) (fun σd zd => ?_) 6 5000 0 σc (by omega) (by omega) zc
  -- the hands
  have fill : ∀ (d m k : Nat) (τ : Zm), d < m → k + d = 4 → ZI iD (fun q => o + 3 ≤ q ∧ q ≤ o + 73) σb τ → (∀ j, j < k → zrd τ (o + 3) j = -1) → zwp (fJ7_fill_53178_5 m (o + 3) (-1) (k : Int) 4 τ) (fun _ τ' => ZI iD (fun q => o + 3 ≤ q ∧ q ≤ o + 73) σb τ' ∧ ∀ j, j < 4 → zrd τ' (o + 3) j = -1) := by
    intro d
    induction d with
    | zero =>
      intro m k τ hm hk hz hj
      obtain ⟨m', rfl⟩ : ∃ m', m = m' + 1 := ⟨m - 1, by omega⟩
      rw [fJ7_fill_53178_5, zwp_let, if_pos (by omega), zwp_some]
      exact ⟨hz, fun j h => hj j (by omega)⟩
    | succ d ih =>
      intro m k τ hm hk hz hj
      obtain ⟨m', rfl⟩ : ∃ m', m = m' + 1 := ⟨m - 1, by omega⟩
      rw [fJ7_fill_53178_5, zwp_let, if_neg (by omega), hL4, zckj (by omega) (by omega), Int.toNat_natCast]
      refine ZI_st hz (by omega) (Or.inl (by unfold iD; omega)) (fun τ1 t1 d1 => ?_)
      rw [show zw ((k : Int) + 1) = ((k + 1 : Nat) : Int) by rw [zwj (by omega) (by omega)]; omega]
      refine ih m' (k + 1) τ1 (by omega) (by omega) t1 (fun j hj' => ?_)
      rw [d1]
      by_cases c : j = k
      · rw [if_pos ⟨rfl, c⟩]; rfl
      · rw [if_neg (fun z => c z.2)]; exact hj j (by omega)
  rw [zwp_bv]
  unfold fJ7_fill_53178
  rw [hL4]
  refine zwp_mono (fill 4 5000 0 σd (by omega) (by omega) ⟨zd.1.mono (fun q z => by omega), zd.2⟩ (fun j hj => by omega)) (fun _ σe ⟨ze, he⟩ => ?_)
  rw [zwp_some]
  have fo : zfo (fun q => o ≤ q ∧ q ≤ o + 73) σ σe := zb'.1.tr (ze.1.mono (fun q z => by omega))
  refine hF σe ⟨h.1.tr (fo.mono (fun q z => hE q z.1 z.2)), ze.2⟩ fo ?_ he
  rw [ze.1.rd (by omega)]
  exact e7
theorem ZI_R {E : Nat → Prop} {σ0 σ : Zm} {P : Int → Zm → Prop} {F : Zm → Zr} (h : ZI iD E σ0 σ) (hE : ∀ q, 150 ≤ q → q ≤ 152 → E q) (hF : ∀ σ', ZI iD E σ0 σ' → zwp (F σ') P) : zwp (zbv (fR_init σ) F) P := by
  rw [zwp_bv]
  unfold fR_init
  refine ZI_zz h (hE _ (by omega) (by omega)) (fun σ1 z => ?_)
  refine ZI_zz z (hE _ (by omega) (by omega)) (fun σ1 z => ?_)
  refine ZI_st z (hE _ (by omega) (by omega)) (Or.inr rfl) (fun σ1 z _ => ?_)
  refine ZI_st z (hE _ (by omega) (by omega)) (Or.inr rfl) (fun σ1 z _ => ?_)
  refine ZI_st z (hE _ (by omega) (by omega)) (Or.inl (by unfold iD; omega)) (fun σ1 z _ => ?_)
  refine ZI_st z (hE _ (by omega) (by omega)) (Or.inr rfl) (fun σ1 z _ => ?_)
  refine ZI_st z (hE _ (by omega) (by omega)) (Or.inr rfl) (fun σ1 z _ => ?_)
  refine ZI_st z (hE _ (by omega) (by omega)) (Or.inl (by unfold iD; omega)) (fun σ1 z _ => ?_)
  refine ZI_st z (hE _ (by omega) (by omega)) (Or.inr rfl) (fun σ1 z _ => ?_)
  refine ZI_st z (hE _ (by omega) (by omega)) (Or.inr rfl) (fun σ1 z _ => ?_)
  refine ZI_st z (hE _ (by omega) (by omega)) (Or.inr rfl) (fun σ1 z _ => ?_)
  refine ZI_st z (hE _ (by omega) (by omega)) (Or.inr rfl) (fun σ1 z _ => ?_)
  refine ZI_st z (hE _ (by omega) (by omega)) (Or.inr rfl) (fun σ1 z _ => ?_)
  refine ZI_st z (hE _ (by omega) (by omega)) (Or.inr rfl) (fun σ1 z _ => ?_)
  refine ZI_st z (hE _ (by omega) (by omega)) (Or.inr rfl) (fun σ1 z _ => ?_)
  refine ZI_st z (hE _ (by omega) (by omega)) (Or.inr rfl) (fun σ1 z _ => ?_)
  rw [zwp_some]
  exact hF _ z
theorem ZI_F {E : Nat → Prop} {σ0 σ : Zm} {P : Int → Zm → Prop} {F : Zm → Zr} (h : ZI iD E σ0 σ) (hE : ∀ q, 157 ≤ q → q ≤ 176 → E q) (hF : ∀ σ', ZI iD E σ0 σ' → zwp (F σ') P) : zwp (zbv (fF_init σ) F) P := by
  rw [zwp_bv]
  unfold fF_init
  refine ZI_zz h (hE _ (by omega) (by omega)) (fun σ1 z => ?_)
  refine ZI_J z (fun q a b => hE q (by omega) (by omega)) (fun k => by unfold iD; omega) (fun σ1 z => ?_)
  refine ZI_zz z (hE _ (by omega) (by omega)) (fun σ1 z => ?_)
  refine ZI_L z (hE _ (by omega) (by omega)) (hE _ (by omega) (by omega)) (fun σ1 z => ?_)
  refine ZI_zz z (hE _ (by omega) (by omega)) (fun σ1 z => ?_)
  refine ZI_L z (hE _ (by omega) (by omega)) (hE _ (by omega) (by omega)) (fun σ1 z => ?_)
  refine ZI_zz z (hE _ (by omega) (by omega)) (fun σ1 z => ?_)
  refine ZI_L z (hE _ (by omega) (by omega)) (hE _ (by omega) (by omega)) (fun σ1 z => ?_)
  refine ZI_zz z (hE _ (by omega) (by omega)) (fun σ1 z => ?_)
  refine ZI_L z (hE _ (by omega) (by omega)) (hE _ (by omega) (by omega)) (fun σ1 z => ?_)
  refine ZI_zz z (hE _ (by omega) (by omega)) (fun σ1 z => ?_)
  refine ZI_zz z (hE _ (by omega) (by omega)) (fun σ1 z => ?_)
  refine ZI_zz z (hE _ (by omega) (by omega)) (fun σ1 z => ?_)
  refine ZI_st z (hE _ (by omega) (by omega)) (Or.inr rfl) (fun σ1 z _ => ?_)
  refine ZI_st z (hE _ (by omega) (by omega)) (Or.inr rfl) (fun σ1 z _ => ?_)
  refine ZI_st z (hE _ (by omega) (by omega)) (Or.inr rfl) (fun σ1 z _ => ?_)
  refine ZI_st z (hE _ (by omega) (by omega)) (Or.inr rfl) (fun σ1 z _ => ?_)
  rw [zwp_some]
  exact hF _ z
theorem ZI_K {E : Nat → Prop} {σ0 σ : Zm} {P : Int → Zm → Prop} {F : Zm → Zr} (h : ZI iD E σ0 σ) (hE : ∀ q, 177 ≤ q → q ≤ 209 → E q) (hF : ∀ σ', ZI iD E σ0 σ' → zwp (F σ') P) : zwp (zbv (fK_init σ) F) P := by
  rw [zwp_bv]
  unfold fK_init
  refine ZI_zz h (hE _ (by omega) (by omega)) (fun σ1 z => ?_)
  refine ZI_J z (fun q a b => hE q (by omega) (by omega)) (fun k => by unfold iD; omega) (fun σ1 z => ?_)
  refine ZI_zz z (hE _ (by omega) (by omega)) (fun σ1 z => ?_)
  refine ZI_zs z (fun q a b => hE q (by omega) (by omega)) (fun σ1 z => ?_)
  refine ZI_zs z (fun q a b => hE q (by omega) (by omega)) (fun σ1 z => ?_)
  refine ZI_zz z (hE _ (by omega) (by omega)) (fun σ1 z => ?_)
  refine ZI_st z (hE _ (by omega) (by omega)) (Or.inr rfl) (fun σ1 z _ => ?_)
  refine ZI_st z (hE _ (by omega) (by omega)) (Or.inr rfl) (fun σ1 z _ => ?_)
  refine ZI_st z (hE _ (by omega) (by omega)) (Or.inl (by unfold iD; omega)) (fun σ1 z _ => ?_)
  refine ZI_st z (hE _ (by omega) (by omega)) (Or.inr rfl) (fun σ1 z _ => ?_)
  refine ZI_st z (hE _ (by omega) (by omega)) (Or.inl (by unfold iD; omega)) (fun σ1 z _ => ?_)
  refine ZI_st z (hE _ (by omega) (by omega)) (Or.inr rfl) (fun σ1 z _ => ?_)
  refine ZI_lines (D := iD) (E := E) (σ0 := σ0) (o := 100) (a := 98) (N := 32) (n := 4) (f := fun m j σ K => fK_init_88 m j σ K) (by omega) (fun m j σ => by show fK_init_88 (m + 1) (j : Int) σ _ = _; rw [fK_init_88, Int.toNat_natCast]; first | done | rfl) (fun q a b => hE q (by omega) (by omega)) (fun σc zc => ?_) 4 5000 0 _ (by omega) (by omega) z
  rw [zwp_some]
  exact hF _ zc
theorem ZI_B {E : Nat → Prop} {σ0 σ : Zm} {P : Int → Zm → Prop} {F : Zm → Zr} (h : ZI iD E σ0 σ) (hE : ∀ q, 210 ≤ q → q ≤ 217 → E q) (hF : ∀ σ', ZI iD E σ0 σ' → zwp (F σ') P) : zwp (zbv (fB_init σ) F) P := by
  rw [zwp_bv]
  unfold fB_init
  refine ZI_zz h (hE _ (by omega) (by omega)) (fun σ1 z => ?_)
  refine ZI_J z (fun q a b => hE q (by omega) (by omega)) (fun k => by unfold iD; omega) (fun σ1 z => ?_)
  refine ZI_zz z (hE _ (by omega) (by omega)) (fun σ1 z => ?_)
  refine ZI_zz z (hE _ (by omega) (by omega)) (fun σ1 z => ?_)
  refine ZI_zz z (hE _ (by omega) (by omega)) (fun σ1 z => ?_)
  rw [zwp_some]
  exact hF _ z
theorem ZI_127 {E : Nat → Prop} {σ0 : Zm} {P : Int → Zm → Prop} {K : Zm → Zr} (hE : ∀ q, 225 ≤ q → q ≤ 260 → E q) (hK : ∀ σ', ZI iD E σ0 σ' → zwp (K σ') P) : ∀ (d m j : Nat) (σ : Zm), d < m → j + d = 6 → ZI iD E σ0 σ → zwp (fX_init_127 m (j : Int) σ K) P
  | 0, m + 1, j, σ, _, hj, h => by
    rw [fX_init_127, if_pos (by omega)]
    exact hK σ h
  | d + 1, m + 1, j, σ, hm, hj, h => by
    rw [fX_init_127, if_neg (by omega), Int.toNat_natCast]
    refine ZI_zz h (hE _ (by omega) (by omega)) (fun σ1 z1 => ?_)
    refine ZI_U z1 (fun q a b => hE q (by omega) (by omega)) (fun σ2 z2 => ?_)
    rw [show zw ((j : Int) + 1) = ((j + 1 : Nat) : Int) by rw [zwj (by omega) (by omega)]; omega]
    exact ZI_127 hE hK d m (j + 1) σ2 (by omega) (by omega) z2
theorem X_init {σ : Zm} (h : ∀ o k, zrd σ o k = 0) : zwp (fX_init σ) (fun _ σ' => (∀ o k, ¬ iD o k → zrd σ' o k = 0) ∧ zrd σ' 1 7 = 4 ∧ zrd σ' 75 7 = 4 ∧ ∀ k, k < 4 → zrd σ' 4 k = -1 ∧ zrd σ' 78 k = -1) := by
  unfold fX_init
  have z0 : ZI iD (fun _ => True) σ σ := ⟨zfo.rf, fun o k _ => h o k⟩
  refine ZI_zz z0 trivial (fun σ1 z1 => ?_)
  refine ZI_S (o := 1) (Or.inl rfl) z1 (fun _ _ _ => trivial) (fun σ2 z2 _ a1 a2 => ?_)
  have z2' : ZI iD (fun q => q = 0 ∨ 75 ≤ q) σ2 σ2 := ⟨zfo.rf, z2.2⟩
  refine ZI_zz z2' (Or.inr (by omega)) (fun σ3 z3 => ?_)
  refine ZI_S (o := 75) (Or.inr rfl) z3 (fun q a b => Or.inr a) (fun σ4 z4 _ b1 b2 => ?_)
  have z4' : ZI iD (fun q => q = 0 ∨ 149 ≤ q) σ4 σ4 := ⟨zfo.rf, z4.2⟩
  refine ZI_zz z4' (Or.inr (by omega)) (fun σ5 z => ?_)
  refine ZI_zz z (Or.inr (by omega)) (fun σ6 z => ?_)
  refine ZI_R z (fun q a b => Or.inr (by omega)) (fun σ7 z => ?_)
  refine ZI_zz z (Or.inr (by omega)) (fun σ8 z => ?_)
  refine ZI_J z (fun q a b => Or.inr (by omega)) (fun k => by unfold iD; omega) (fun σ9 z => ?_)
  refine ZI_zz z (Or.inr (by omega)) (fun σ10 z => ?_)
  refine ZI_F z (fun q a b => Or.inr (by omega)) (fun σ11 z => ?_)
  refine ZI_zz z (Or.inr (by omega)) (fun σ12 z => ?_)
  refine ZI_K z (fun q a b => Or.inr (by omega)) (fun σ13 z => ?_)
  refine ZI_zz z (Or.inr (by omega)) (fun σ14 z => ?_)
  refine ZI_B z (fun q a b => Or.inr (by omega)) (fun σ15 z => ?_)
  refine ZI_zz z (Or.inr (by omega)) (fun σ16 z => ?_)
  refine ZI_T z (fun q a b => Or.inr (by omega)) (fun σ17 z => ?_)
  refine ZI_zz z (Or.inr (by omega)) (fun σ18 z => ?_)
  refine ZI_T z (fun q a b => Or.inr (by omega)) (fun σ19 z => ?_)
  refine ZI_zz z (Or.inr (by omega)) (fun σ20 z => ?_)
  refine ZI_st z (Or.inl rfl) (Or.inr rfl) (fun σ21 z _ => ?_)
  refine ZI_127 (E := fun q => q = 0 ∨ 149 ≤ q) (σ0 := σ4) (fun q a b => Or.inr (by omega)) (fun σa za => ?_) 6 5000 0 σ21 (by omega) (by omega) z
  refine ZI_lines (D := iD) (E := fun q => q = 0 ∨ 149 ≤ q) (σ0 := σ4) (o := 200) (a := 61) (N := 32) (n := 4) (f := fun m j σ K => fX_init_154 m j σ K) (by omega) (fun m j σ => by show fX_init_154 (m + 1) (j : Int) σ _ = _; rw [fX_init_154, Int.toNat_natCast]; first | done | rfl) (fun q a b => Or.inr (by omega)) (fun σc zc => ?_) 4 5000 0 _ (by omega) (by omega) za
  rw [zwp_some]
  refine ⟨zc.2, ?_, ?_, fun k hk => ⟨?_, ?_⟩⟩
  · rw [zc.1.rd (by omega), z4.1.rd (by omega)]; exact a1
  · rw [zc.1.rd (by omega)]; exact b1
  · rw [zc.1.rd (by omega), z4.1.rd (by omega)]; exact a2 k hk
  · rw [zc.1.rd (by omega)]; exact b2 k hk
theorem M_fil {f : Nat → Int → Zm → (Zm → Zr) → Zr} {n base : Nat} {v : Int} {P : Int → Zm → Prop} {K : Zm → Zr} (hb : base + n ≤ 700) (hv : zw v = v) (hf : ∀ (m j : Nat) (σ : Zm), f (m + 1) (j : Int) σ K = if (n : Int) ≤ (j : Int) then K σ else zck (zw ((base : Int) + (j : Int))) 700 (zlet (zst σ 274 (zw ((base : Int) + (j : Int))).toNat v) fun σ1 => f m (zw ((j : Int) + 1)) σ1 K)) (σ0 : Zm) (hK : ∀ σ', zfo (oO 274) σ0 σ' → (∀ i, zrd σ' 274 i = if base ≤ i ∧ i < base + n then v else zrd σ0 274 i) → zwp (K σ') P) : ∀ (d m j : Nat) (σ : Zm), d < m → j + d = n → zfo (oO 274) σ0 σ → (∀ i, zrd σ 274 i = if base ≤ i ∧ i < base + j then v else zrd σ0 274 i) → zwp (f m (j : Int) σ K) P
  | 0, m + 1, j, σ, _, hj, h1, h2 => by
    have : j = n := by omega
    subst this
    rw [hf, if_pos (by omega)]
    exact hK σ h1 h2
  | d + 1, m + 1, j, σ, hm, hj, h1, h2 => by
    rw [hf, if_neg (by omega), show zw ((base : Int) + (j : Int)) = ((base + j : Nat) : Int) by rw [zwj (by omega) (by omega)]; omega, zckj (by omega) (by omega), Int.toNat_natCast]
    refine zwp_st (fun σ1 f1 e1 => ?_)
    rw [show zw ((j : Int) + 1) = ((j + 1 : Nat) : Int) by rw [zwj (by omega) (by omega)]; omega]
    refine M_fil hb hv hf σ0 hK d m (j + 1) σ1 (by omega) (by omega) (h1.tr f1) (fun i => ?_)
    rw [e1, h2 i, hv]
    by_cases c : i = base + j
    · rw [if_pos c, if_pos (by omega)]
    · rw [if_neg c]
      by_cases c2 : base ≤ i ∧ i < base + j
      · rw [if_pos c2, if_pos (by omega)]
      · rw [if_neg c2, if_neg (by omega)]
def g0 (i : Nat) : Int := if 610 ≤ i ∧ i < 610 + 4 then -1 else if 530 ≤ i ∧ i < 530 + 72 then -1000 else if 10 ≤ i ∧ i < 10 + 512 then -1 else if i = 0 then 4 else 0
def mE (q : Nat) : Prop := 273 ≤ q
theorem M_init {σ : Zm} (h : ∀ k, zrd σ 273 k = 0) : zwp (fM_init σ) (fun _ σ' => zfo mE σ σ' ∧ zrd σ' 273 4 = 0 ∧ zrd σ' 273 5 = -1 ∧ zrd σ' 273 6 = -1 ∧ (∀ i, i < 700 → zrd σ' 274 i = g0 i) ∧ ∀ i, i < 700 → zrd σ' 275 i = g0 i) := by
  unfold fM_init
  have z0 : ZI (fun o k => o ≠ 274) mE σ (zzr σ 274) := ⟨zzr_fo (by unfold mE; omega), fun o k hk => by
    have : o = 274 := Decidable.byContradiction hk
    rw [zrd_zz, if_pos this]⟩
  have e273 : ∀ k, zrd (zzr σ 274) 273 k = 0 := fun k => by rw [zrd_zz, if_neg (by omega)]; exact h k
  rw [zwp_let]
  generalize zzr σ 274 = τ0 at *
  have step : ∀ {o : Nat} {σ0 σ : Zm} {F : Zm → Zr} {P : Int → Zm → Prop}, 275 ≤ o → ZI (fun o k => o ≠ 274) mE σ0 σ → (∀ σ', ZI (fun o k => o ≠ 274) mE σ0 σ' → (∀ k, zrd σ' 273 k = zrd σ 273 k) → zwp (F σ') P) → zwp (zlet (zzr σ o) F) P := by
    intro o σ0 σ F P ho hz hF
    refine hF _ ⟨hz.1.tr (zzr_fo (by unfold mE; omega)), fun p k hp => ?_⟩ (fun k => by rw [zrd_zz, if_neg (by omega)])
    rw [zrd_zz]
    split
    · rfl
    · exact hz.2 p k hp
  refine step (by omega) z0 (fun σ2 z2 k2 => ?_)
  refine step (by omega) z2 (fun σ3 z3 k3 => ?_)
  refine step (by omega) z3 (fun σ4 z4 k4 => ?_)
  refine ZI_st z4 (by unfold mE; omega) (Or.inl (by omega)) (fun σ5 z5 e5 => ?_)
  refine ZI_st z5 (by unfold mE; omega) (Or.inl (by omega)) (fun σ6 z6 e6 => ?_)
  refine step (by omega) z6 (fun s7 z k7 => ?_)
  refine step (by omega) z (fun s8 z k8 => ?_)
  refine step (by omega) z (fun s9 z k9 => ?_)
  refine step (by omega) z (fun s10 z k10 => ?_)
  refine step (by omega) z (fun s11 z k11 => ?_)
  refine step (by omega) z (fun s12 z k12 => ?_)
  refine step (by omega) z (fun s13 z k13 => ?_)
  refine step (by omega) z (fun s14 z k14 => ?_)
  refine step (by omega) z (fun s15 z k15 => ?_)
  refine step (by omega) z (fun s16 z k16 => ?_)
  refine step (by omega) z (fun s17 z k17 => ?_)
  refine step (by omega) z (fun s18 z k18 => ?_)
  refine step (by omega) z (fun s19 z k19 => ?_)
  refine step (by omega) z (fun s20 z k20 => ?_)
  refine step (by omega) z (fun s21 z k21 => ?_)
  refine step (by omega) z (fun s22 z k22 => ?_)
  have k6 : ∀ k, zrd s22 273 k = zrd σ6 273 k := fun k => by rw [k22, k21, k20, k19, k18, k17, k16, k15, k14, k13, k12, k11, k10, k9, k8, k7]
  have h4 : ∀ k, zrd σ4 273 k = 0 := fun k => by rw [k4, k3, k2]; exact e273 k
  have q4 : zrd s22 273 4 = 0 := by rw [k6, e6, if_neg (by omega), e5, if_neg (by omega)]; exact h4 4
  have q5 : zrd s22 273 5 = -1 := by rw [k6, e6, if_neg (by omega), e5, if_pos ⟨rfl, rfl⟩]; rfl
  have q6 : zrd s22 273 6 = -1 := by rw [k6, e6, if_pos ⟨rfl, rfl⟩]; rfl
  have q274 : ∀ i, zrd s22 274 i = 0 := fun i => z.2 274 i (fun q => q rfl)
  have fo22 : zfo mE σ s22 := z.1
  rw [zckj (by decide) (by decide)]
  refine zwp_st (fun t1 f1 v1 => ?_)
  refine M_fil (f := fun m j σ K => fM_init_194 m j σ K) (n := 512) (base := 10) (v := -1) (by omega) rfl (fun m j σ => by show fM_init_194 (m + 1) (j : Int) σ _ = _; rw [fM_init_194]; first | done | rfl) t1 (fun t2 f2 v2 => ?_) 512 5000 0 t1 (by omega) (by omega) zfo.rf (fun i => by rw [if_neg (by omega)])
  refine M_fil (f := fun m j σ K => fM_init_219 m j σ K) (n := 72) (base := 530) (v := -1000) (by omega) rfl (fun m j σ => by show fM_init_219 (m + 1) (j : Int) σ _ = _; rw [fM_init_219]; first | done | rfl) t2 (fun t3 f3 v3 => ?_) 72 5000 0 t2 (by omega) (by omega) zfo.rf (fun i => by rw [if_neg (by omega)])
  refine M_fil (f := fun m j σ K => fM_init_246 m j σ K) (n := 4) (base := 610) (v := -1) (by omega) rfl (fun m j σ => by show fM_init_246 (m + 1) (j : Int) σ _ = _; rw [fM_init_246]; first | done | rfl) t3 (fun t4 f4 v4 => ?_) 4 5000 0 t3 (by omega) (by omega) zfo.rf (fun i => by rw [if_neg (by omega)])
  have f14 : zfo (oO 274) s22 t4 := ((f1.tr f2).tr f3).tr f4
  have g4 : ∀ i, zrd t4 274 i = g0 i := by
    intro i
    have e1 : zrd t1 274 i = if i = 0 then 4 else 0 := by
      rw [v1, q274]; rfl
    rw [v4, v3, v2, e1]
    rfl
  rw [zwp_bv]
  refine zwp_mono (qM_copyRow 274 275 (by decide +kernel) (by decide +kernel) (by omega) t4) (fun _ t5 ⟨f5, v5⟩ => ?_)
  rw [zwp_some]
  have f45 : zfo (fun q => q = 274 ∨ q = 275) s22 t5 := (f14.mono (D' := fun q => q = 274 ∨ q = 275) (fun q z => Or.inl z)).tr (f5.mono (fun q z => Or.inr z))
  refine ⟨fo22.tr (f45.mono (fun q z => by unfold mE; omega)), ?_, ?_, ?_, fun i hi => ?_, fun i hi => ?_⟩
  · rw [f45.rd (by omega)]; exact q4
  · rw [f45.rd (by omega)]; exact q5
  · rw [f45.rd (by omega)]; exact q6
  · rw [f5.rd (oO_ne (by omega))]; exact g4 i
  · rw [v5 i hi]; exact g4 i
def N0 (k : Nat) : Int := if k = 0 then 4 else if 10 ≤ k ∧ k < 14 then -1 else 0
theorem WS_0 : WS (fun _ => zln) (fun _ => zln) N0 := by
  refine ⟨fun i t => ⟨Or.inl rfl, fun _ => rfl⟩, fun i t => ⟨Or.inl rfl, fun _ => rfl⟩, by decide, by decide, by decide, by decide, ?_, ?_, ?_, ?_⟩
  · intro k hk
    unfold N0
    rw [if_neg (by omega), if_pos (by omega)]
    omega
  · intro k hk hk2
    have : N0 3 = 0 := rfl
    omega
  · intro k hk
    unfold N0
    rw [if_neg (by omega), if_neg (by omega)]
    omega
  · intro k hk
    unfold N0
    rw [if_neg (by omega), if_neg (by omega)]
    omega
theorem XS_0 {σ : Zm} {o : Nat} (ho : o = 1 ∨ o = 75) (h : ∀ o k, ¬ iD o k → zrd σ o k = 0) (h7 : zrd σ o 7 = 4) (h3 : ∀ k, k < 4 → zrd σ (o + 3) k = -1) : XS o σ (fun _ => zln) (fun _ => zln) N0 := by
  have hl : ∀ (n q : Nat), (o + 8 ≤ q ∧ q + 2 ≤ o + 73) → ln n σ q = zln := by
    intro n q hq
    funext t
    unfold ln
    rw [if_neg (fun z => z.2 (h _ _ (by unfold iD; omega)))]
    rfl
  refine ⟨fun v hv => ⟨hl 32 _ (by omega), fun t _ _ => h _ _ (by unfold iD; omega)⟩, fun s hs => hl 12 _ (by omega), h7, ?_, ?_, ?_, fun k hk => ?_, fun k hk => ?_, fun k hk => ?_, fun k hk => ?_, fun k hk => ?_⟩
  · rw [h _ _ (by unfold iD; omega)]; rfl
  · rw [h _ _ (by unfold iD; omega)]; rfl
  · rw [h _ _ (by unfold iD; omega)]; rfl
  · rw [h3 k hk]
    unfold N0
    rw [if_neg (by omega), if_pos (by omega)]
  · rw [h _ _ (by unfold iD; omega)]
    unfold N0
    rw [if_neg (by omega), if_neg (by omega)]
  · rw [h _ _ (by unfold iD; omega)]
    unfold N0
    rw [if_neg (by omega), if_neg (by omega)]
  · rw [h _ _ (by unfold iD; omega)]
    unfold N0
    rw [if_neg (by omega), if_neg (by omega)]
  · rw [h _ _ (by unfold iD; omega)]
    unfold N0
    rw [if_neg (by omega), if_neg (by omega)]
theorem MS_0 {σ : Zm} {o : Nat} (h : ∀ i, i < 700 → zrd σ o i = g0 i) : MS o σ (fun _ => zln) (fun _ => zln) N0 := by
  refine ⟨fun i t hi ht => ?_, fun s b hs hb => ?_, fun k hk => ?_, fun k hk => ?_, fun k hk => ⟨?_, ?_⟩, fun k hk => ?_, fun k hk => ?_⟩
  · rw [h _ (by omega)]
    unfold g0
    rw [if_neg (by omega), if_neg (by omega), if_pos (by omega)]; rfl
  · rw [h _ (by omega)]
    unfold g0
    rw [if_neg (by omega), if_pos (by omega)]; rfl
  · rw [h _ (by omega)]
    unfold g0 N0
    rw [if_neg (by omega), if_neg (by omega), if_neg (by omega)]
    by_cases c : k = 0
    · rw [if_pos c, if_pos c]
    · rw [if_neg c, if_neg c, if_neg (by omega)]
  · rw [h _ (by omega)]
    unfold g0 N0
    rw [if_pos (by omega), if_neg (by omega), if_pos (by omega)]
  · rw [h _ (by omega)]
    unfold g0 N0
    rw [if_neg (by omega), if_neg (by omega), if_neg (by omega), if_neg (by omega), if_neg (by omega), if_neg (by omega)]
  · rw [h _ (by omega)]
    unfold g0 N0
    rw [if_neg (by omega), if_neg (by omega), if_neg (by omega), if_neg (by omega), if_neg (by omega), if_neg (by omega)]
  · rw [h _ (by omega)]
    unfold g0 N0
    rw [if_neg (by omega), if_neg (by omega), if_neg (by omega), if_neg (by omega), if_neg (by omega), if_neg (by omega)]
  · rw [h _ (by omega)]
    unfold g0 N0
    rw [if_neg (by omega), if_neg (by omega), if_neg (by omega), if_neg (by omega), if_neg (by omega), if_neg (by omega)]
theorem init_Inv {σ0 : Zm} (h0 : ∀ o k, zrd σ0 o k = 0) : zwp (fX_init σ0) (fun _ σ1 => zwp (fM_init (zzr σ1 273)) (fun _ σ2 => Inv σ2)) := by
  refine zwp_mono (X_init h0) (fun _ σ1 ⟨hz, h1, h75, h4⟩ => ?_)
  refine zwp_mono (M_init (σ := zzr σ1 273) (fun k => by rw [zrd_zz, if_pos rfl])) (fun _ σ2 ⟨f2, m4, m5, m6, m274, m275⟩ => ?_)
  have hx : ∀ q, q < 273 → ∀ k, zrd σ2 q k = zrd σ1 q k := fun q hq k => by rw [f2.rd (by unfold mE; omega), zrd_zz, if_neg (by omega)]
  have ff : zfo mE σ1 σ2 := (zzr_fo (by unfold mE; omega)).tr f2
  have hX1 : XS 1 σ2 (fun _ => zln) (fun _ => zln) N0 := XS_fo (XS_0 (Or.inl rfl) hz h1 (fun k hk => (h4 k hk).1)) ff (fun q a b => by unfold mE; omega)
  have hX75 : XS 75 σ2 (fun _ => zln) (fun _ => zln) N0 := XS_fo (XS_0 (Or.inr rfl) hz h75 (fun k hk => (h4 k hk).2)) ff (fun q a b => by unfold mE; omega)
  have n1 : N0 1 = 0 := rfl
  refine ⟨((fun _ => zln, fun _ => zln, N0), (fun _ => zln, fun _ => zln, N0), fun _ => []), (0, fun _ => 0, (0, 0, 0)), ⟨WS_0, WS_0, Int.le_refl _, fun i hi hn => ?_⟩, ⟨by omega, fun j hj => by omega, Or.inl rfl⟩, ⟨hX1, hX75, fun i hi hn => ?_⟩, ⟨MS_0 m274, MS_0 m275, fun i hi hn => ?_⟩, ⟨?_, fun j hj => by omega, ?_, fun q => absurd rfl q⟩, ⟨m4, fun j hj => by omega, m5, m6⟩⟩
  · have hn' : (i : Int) < N0 1 := hn
    omega
  · have hn' : (i : Int) < N0 1 := hn
    omega
  · have hn' : (i : Int) < N0 1 := hn
    omega
  · rw [hx _ (by omega), hz _ _ (by unfold iD; omega)]; rfl
  · rw [hx _ (by omega), hz _ _ (by unfold iD; omega)]

/-! MY OWN: what is learnt: seen, strange, apart, whose -/
theorem oMLp_sc {q : Nat} (h : oMLp q) : scM q := by unfold oMLp oML oSh at h; unfold scM; omega
theorem oT_sc {o q : Nat} (ho : o = 218 ∨ o = 221) (h : oT o q) : scX q := by unfold oT at h; unfold scX; omega
theorem Cs_le (V : Nat → Ln) (set : Nat) (s : Int) : Cs V set s ≤ 1000 := by
  have := Sm_le (fun i => cs (V i) s 32) set (fun i => (cs_le (V i) 0 s 32).1) 16
  unfold Cs; omega
theorem Ca_le (V : Nat → Ln) (set : Nat) : Ca V set ≤ 1000 := by
  have := Sm_le (fun i => ca (V i) 32) set (fun i => (cs_le (V i) 0 0 32).2.1) 16
  unfold Ca; omega
theorem Cb_le (V : Nat → Ln) (set : Nat) (b s : Int) : Cb V set b s ≤ 1000 := by
  have := Sm_le (fun i => cb (V i) b s 32) set (fun i => (cs_le (V i) b s 32).2.2.1) 16
  unfold Cb; omega
theorem Cba_le (V : Nat → Ln) (set : Nat) (b : Int) : Cba V set b ≤ 1000 := by
  have := Sm_le (fun i => cba (V i) b 32) set (fun i => (cs_le (V i) b 0 32).2.2.2) 16
  unfold Cba; omega
/-- the class learns -/
theorem xLearn {w : Wd} {σ : Zm} (g : GI w) (h : XV 1 σ (wV w)) {o : Nat} (ho : o = 218 ∨ o = 221) {set : Nat} (hs : set < 16) {b : Int} (hb : -12 ≤ b ∧ b ≤ 101) {F : Zm → Zr} {P : Int → Zm → Prop} (hF : ∀ σ', zfo (oT o) σ σ' → XV 1 σ' (wV w) → lrn o (wV w) set b σ' → zwp (F σ') P) : zwp (zbv (fX_learn σ o (set : Int) b) F) P := by
  rw [zwp_bv]
  exact zwp_mono (qX_learn ho (wV w) set hs b hb σ h (fun i _ => vok_sm (g.1.1 i))) (fun _ σ' ⟨f1, l1⟩ => hF σ' f1 (XV_fo h f1 (fun q a b => by unfold oT; omega)) l1)
theorem mLearn {w : Wd} {σ : Zm} (g : GI w) (h : MI w σ) {set : Nat} (hs : set < 16) {F : Zm → Zr} {P : Int → Zm → Prop} (hF : ∀ σ', zfo oMLp σ σ' → k38 σ σ' → MI w σ' → mlr (wV w) set σ' → zwp (F σ') P) : zwp (zbv (fM_learn σ (set : Int)) F) P := by
  rw [zwp_bv]
  exact zwp_mono (qM_learn g.1.1 set hs σ h.1.1) (fun _ σ' ⟨f1, k1, l1⟩ => hF σ' f1 k1 (MI_fo h f1 (by unfold oMLp oML oSh; omega) (by unfold oMLp oML oSh; omega) (by unfold oMLp oML oSh; omega)) l1)
theorem nX_seen {w : Wd} {σ : Zm} (g : GI w) (hX : XI w σ) (x1 x2 : Int) (c : ¬ ((0 ≤ x1 ∧ x1 ≤ 15) ∧ ((-12) ≤ x2 ∧ x2 ≤ 12))) : fX_seen σ x1 x2 = some ((-1), σ) := by
  unfold fX_seen
  by_cases c0 : 0 ≤ x1 ∧ x1 ≤ 15
  · rw [xSet_t c0, if_neg (by decide)]
    by_cases c1 : (-12) ≤ x2 ∧ x2 ≤ 12
    · rw [pwithin_t c1, if_pos (by decide)]
      exact absurd (by grind) c
    · rw [pwithin_f c1, if_neg (by decide)]
  · rw [xSet_f c0, if_pos rfl]
theorem nM_seen {w : Wd} {σ : Zm} (g : GI w) (hM : MI w σ) (x1 x2 : Int) (c : ¬ ((0 ≤ x1 ∧ x1 ≤ 15) ∧ ((-12) ≤ x2 ∧ x2 ≤ 12))) : fM_seen σ x1 x2 = some ((-1), σ) := by
  unfold fM_seen
  by_cases c0 : 0 ≤ x1 ∧ x1 ≤ 15
  · rw [mSet_t c0, if_neg (by decide)]
    by_cases c1 : (-12) ≤ x2 ∧ x2 ≤ 12
    · rw [mIn_t c1, if_pos (by decide)]
      exact absurd (by grind) c
    · rw [mIn_f c1, if_neg (by decide)]
  · rw [mSet_f c0, if_pos rfl]
theorem st_seen (x1 x2 : Int) : St (fun σ => fX_seen σ x1 x2) (fun σ => fM_seen σ x1 x2) := by
  intro σ h
  have hI := h
  obtain ⟨w, p, g, gp, hX, hM, hXT, hMP⟩ := h
  by_cases c : (0 ≤ x1 ∧ x1 ≤ 15) ∧ ((-12) ≤ x2 ∧ x2 ≤ 12)
  · obtain ⟨c1, c2⟩ := c
    obtain ⟨x, rfl, hx⟩ := nat_of (x := x1) (n := 16) (by omega)
    obtain ⟨y, hy⟩ : ∃ y : Nat, x2 = (y : Int) - 12 := ⟨(x2 + 12).toNat, by omega⟩
    subst hy
    show zwp (fX_seen σ (x : Int) _) _
    unfold fX_seen
    rw [xSet_t c1, if_neg (by decide), pwithin_t c2, if_pos (by decide)]
    refine xLearn g hX.1.1 (Or.inl rfl) hx (by omega) (fun σ1 f1 _ l1 => ?_)
    have g1 : zfo scX σ σ1 := zIn f1 (fun q z => oT_sc (Or.inl rfl) z)
    have hM1 := MI_sX hM g1
    have ez : zw ((y : Int) - 12 + 12) = (y : Int) := by rw [zwj (by omega) (by omega)]; omega
    have hA := Cs_le (wV w) x ((y : Int) - 12)
    rw [ez, zckj (by omega) (by omega), zwp_let, zwp_some, Int.toNat_natCast, l1.1 y (by omega)]
    show zwp (fM_seen σ1 (x : Int) _) _
    unfold fM_seen
    rw [mSet_t c1, if_neg (by decide), mIn_t c2, if_pos (by decide)]
    refine mLearn g hM1 hx (fun σ2 f2 k2 _ l2 => ?_)
    rw [ez, zckj (by omega) (by omega), zwp_let, zwp_some, Int.toNat_natCast, l2.1 y (by omega)]
    exact ⟨rfl, Inv_sc hI g1 (f2.mono (fun q z => oMLp_sc z)) (fun k a b => k2 k (by omega))⟩
  · exact St_neg hI (nX_seen g hX x1 x2 c) (nM_seen g hM x1 x2 c)
/-- the reference copies what it learnt -/
theorem pM_strangeOf_15 (x1 x2 x3 : Int) (A : Nat → Nat) (hA : ∀ s, A s ≤ 1000) (σ0 : Zm) (h0 : ∀ s, s < 25 → zrd σ0 287 s = (A s : Int)) (P : Int → Zm → Prop) (K : Int → Int → Int → Zm → Zr) (hK : ∀ σ', zfo (oO 289) σ0 σ' → (∀ s, s < 25 → zrd σ' 289 s = (A s : Int)) → zwp (K x1 x2 x3 σ') P) : ∀ (d m s : Nat) (σ : Zm), d < m → s + d = 25 → zfo (oO 289) σ0 σ → (∀ k, k < s → zrd σ 289 k = (A k : Int)) → zwp (fM_strangeOf_15 m x1 x2 x3 (s : Int) σ K) P
  | 0, m + 1, s, σ, _, hs, h1, h2 => by
    have : s = 25 := by omega
    subst this
    rw [fM_strangeOf_15]
    simp only [zwp_let]
    rw [if_pos (by decide)]
    exact hK σ h1 h2
  | d + 1, m + 1, s, σ, hm, hs, h1, h2 => by
    have := hA s
    rw [fM_strangeOf_15]
    simp only [zwp_let]
    rw [if_neg (by omega), zckj (by omega) (by omega), zwp_let, Int.toNat_natCast, h1.rd (oO_ne (by omega)), h0 s (by omega), zckj (by omega) (by omega)]
    refine zwp_st (fun σ1 f1 v1 => ?_)
    rw [show zw ((s : Int) + 1) = ((s + 1 : Nat) : Int) by rw [zwj (by omega) (by omega)]; omega]
    refine pM_strangeOf_15 x1 x2 x3 A hA σ0 h0 P K hK d m (s + 1) σ1 (by omega) (by omega) (h1.tr f1) (fun k hk => ?_)
    rw [v1 k]
    by_cases c : k = s
    · rw [if_pos c, c]; exact zwj (by omega) (by omega)
    · rw [if_neg c]; exact h2 k (by omega)
theorem pM_apartOf_13 (x2 x3 : Int) (A : Nat → Nat) (hA : ∀ s, A s ≤ 1000) (σ0 : Zm) (h0 : ∀ s, s < 25 → zrd σ0 287 s = (A s : Int)) (P : Int → Zm → Prop) (K : Int → Int → Zm → Zr) (hK : ∀ σ', zfo (oO 289) σ0 σ' → (∀ s, s < 25 → zrd σ' 289 s = (A s : Int)) → zwp (K x2 x3 σ') P) : ∀ (d m s : Nat) (σ : Zm), d < m → s + d = 25 → zfo (oO 289) σ0 σ → (∀ k, k < s → zrd σ 289 k = (A k : Int)) → zwp (fM_apartOf_13 m x2 x3 (s : Int) σ K) P
  | 0, m + 1, s, σ, _, hs, h1, h2 => by
    have : s = 25 := by omega
    subst this
    rw [fM_apartOf_13]
    simp only [zwp_let]
    rw [if_pos (by decide)]
    exact hK σ h1 h2
  | d + 1, m + 1, s, σ, hm, hs, h1, h2 => by
    have := hA s
    rw [fM_apartOf_13]
    simp only [zwp_let]
    rw [if_neg (by omega), zckj (by omega) (by omega), zwp_let, Int.toNat_natCast, h1.rd (oO_ne (by omega)), h0 s (by omega), zckj (by omega) (by omega)]
    refine zwp_st (fun σ1 f1 v1 => ?_)
    rw [show zw ((s : Int) + 1) = ((s + 1 : Nat) : Int) by rw [zwj (by omega) (by omega)]; omega]
    refine pM_apartOf_13 x2 x3 A hA σ0 h0 P K hK d m (s + 1) σ1 (by omega) (by omega) (h1.tr f1) (fun k hk => ?_)
    rw [v1 k]
    by_cases c : k = s
    · rw [if_pos c, c]; exact zwj (by omega) (by omega)
    · rw [if_neg c]; exact h2 k (by omega)
theorem pM_strangeOf_59 (x3 : Int) (B : Nat → Nat) (hB : ∀ s, B s ≤ 1000) (σ : Zm) (h0 : ∀ s, s < 25 → zrd σ 287 s = (B s : Int)) (P : Int → Zm → Prop) (K : Int → Int → Zm → Zr) (hK : zwp (K x3 (mx B 25 : Int) σ) P) : ∀ (d m s : Nat), d < m → s + d = 25 → zwp (fM_strangeOf_59 m x3 (mx B s : Int) (s : Int) σ K) P
  | 0, m + 1, s, _, hs => by
    have : s = 25 := by omega
    subst this
    rw [fM_strangeOf_59]
    simp only [zwp_let]
    rw [if_pos (by decide)]
    exact hK
  | d + 1, m + 1, s, hm, hs => by
    have ih := pM_strangeOf_59 x3 B hB σ h0 P K hK d m (s + 1) (by omega) (by omega)
    have e : mx B (s + 1) = max (mx B s) (B s) := rfl
    rw [fM_strangeOf_59]
    simp only [zwp_let]
    rw [if_neg (by omega), zckj (by omega) (by omega), zwp_let, Int.toNat_natCast, h0 s (by omega), show zw ((s : Int) + 1) = ((s + 1 : Nat) : Int) by rw [zwj (by omega) (by omega)]; omega]
    by_cases c : B s ≤ mx B s
    · rw [if_pos (by omega)]
      rw [e, Nat.max_eq_left c] at ih
      exact ih
    · rw [if_neg (by omega), zckj (by omega) (by omega), zwp_let]
      rw [e, Nat.max_eq_right (by omega)] at ih
      exact ih
theorem pM_strangeOf_115 (A B : Nat → Nat) (n : Nat) (hn : 1 ≤ n) (hA : ∀ s, A s ≤ 1000) (hB : ∀ s, B s ≤ 1000) (σ : Zm) (hu : ∀ s, s < 25 → zrd σ 289 s = (A s : Int)) (hv : ∀ s, s < 25 → zrd σ 287 s = (B s : Int)) (most : Nat) (hm : 1 ≤ most) (hm2 : most ≤ 1000) (hmB : ∀ s, s < 25 → B s ≤ most) : ∀ (d m s : Nat), d < m → s + d = 25 → fM_strangeOf_115 m (n : Int) (most : Int) (stq A B most s) (s : Int) σ = some (Int.tdiv (stq A B most 25) n, σ)
  | 0, m + 1, s, _, hs => by
    have : s = 25 := by omega
    subst this
    rw [fM_strangeOf_115]
    dsimp only [zlet]
    rw [if_pos (by decide)]
    unfold zdv
    rw [if_neg (by omega)]
  | d + 1, m + 1, i, hm', hi => by
    have h1 := stq_bd A B hA most (by omega) hmB i (by omega)
    have h2 := div_le1 (hmB i (by omega)) (show most ≠ 0 by omega)
    have h3 := hA i
    have h4 := hB i
    have h5 := nmul_bd (x := (A i : Int)) (y := 1000 - ((dq (1000 * B i) most : Nat) : Int)) (by omega) (by omega)
    have ih := pM_strangeOf_115 A B n hn hA hB σ hu hv most hm hm2 hmB d m (i + 1) (by omega) (by omega)
    rw [fM_strangeOf_115]
    dsimp only [zlet]
    rw [if_neg (by omega), zckj (by omega) (by omega), zckj (by omega) (by omega), Int.toNat_natCast, hu i (by omega), hv i (by omega)]
    unfold zdv
    rw [if_neg (by omega), show zw (1000 * (B i : Int)) = ((1000 * B i : Nat) : Int) from zwj (by omega) (by omega), show Int.tdiv ((1000 * B i : Nat) : Int) (most : Int) = ((dq (1000 * B i) most : Nat) : Int) from rfl, show zw ((i : Int) + 1) = ((i + 1 : Nat) : Int) from zwj (by omega) (by omega), zwj (a := stq A B most i + (A i : Int) * (1000 - ((dq (1000 * B i) most : Nat) : Int))) (by omega) (by omega)]
    exact ih
def oMS (q : Nat) : Prop := oMLp q ∨ q = 289
theorem oMS_sc {q : Nat} (h : oMS q) : scM q := by
  rcases h with h | h
  · exact oMLp_sc h
  · unfold scM; omega
def stv (V : Nat → Ln) (set p : Nat) : Int := stg (fun s => Cs V (2 ^ p) ((s : Int) - 12)) (Ca V (2 ^ p)) (fun s => Cs V (clr set p) ((s : Int) - 12))
theorem p2_16 {p : Nat} (h : p < 4) : 2 ^ p < 16 := by
  rcases (show p = 0 ∨ p = 1 ∨ p = 2 ∨ p = 3 by omega) with e | e | e | e <;> subst e <;> decide
theorem tdv_bd {x : Int} {n : Nat} (hx : 0 ≤ x) (hn : 1 ≤ n) : 0 ≤ Int.tdiv x (n : Int) ∧ Int.tdiv x (n : Int) ≤ x := by
  obtain ⟨k, rfl⟩ : ∃ k : Nat, x = (k : Int) := ⟨x.toNat, by omega⟩
  rw [show Int.tdiv (k : Int) (n : Int) = ((k / n : Nat) : Int) from rfl]
  have := Nat.div_le_self k n
  generalize k / n = z at *
  omega
theorem stv_bd (V : Nat → Ln) (set p : Nat) : -1 ≤ stv V set p ∧ stv V set p ≤ 25000000 := by
  unfold stv stg
  split
  · omega
  · next h =>
    have h1 := stq_bd (fun s => Cs V (2 ^ p) ((s : Int) - 12)) (fun s => Cs V (clr set p) ((s : Int) - 12)) (fun s => Cs_le V _ _) (mx (fun s => Cs V (clr set p) ((s : Int) - 12)) 25) (by omega) (fun s hs => mx_le (fun s => Cs V (clr set p) ((s : Int) - 12)) 25 s hs) 25 (by omega)
    have h2 := tdv_bd h1.1 (n := Ca V (2 ^ p)) (by omega)
    omega
/-- how strange a piece is, to the reference -/
theorem qM_strangeOf {w : Wd} (g : GI w) {set p : Nat} (hs : set < 16) (hp : p < 4) (σ : Zm) (h : MI w σ) : zwp (fM_strangeOf σ (set : Int) (p : Int)) (fun r σ' => zfo oMS σ σ' ∧ k38 σ σ' ∧ MI w σ' ∧ r = stv (wV w) set p) := by
  unfold fM_strangeOf
  have hcl := clr_le set p
  have h16 := p2_16 hp
  rw [zshl_1 (by omega)]
  refine mLearn g h h16 (fun σ1 f1 k1 h1 l1 => ?_)
  rw [zwp_let, l1.2.1]
  refine pM_strangeOf_15 _ _ _ (fun s => Cs (wV w) (2 ^ p) ((s : Int) - 12)) (fun s => Cs_le _ _ _) σ1 l1.1 _ _ (fun σ2 f2 v2 => ?_) 25 5000 0 σ1 (by omega) (by omega) zfo.rf (fun k hk => absurd hk (by omega))
  have h2 : MI w σ2 := MI_fo h1 f2 (oO_ne (by omega)) (oO_ne (by omega)) (oO_ne (by omega))
  rw [zclr (by omega) (by omega)]
  refine mLearn g h2 (by omega) (fun σ3 f3 k3 h3 l3 => ?_)
  have f13 : zfo oMS σ σ3 := ((f1.mono (fun q z => Or.inl z)).tr (f2.mono (fun q z => Or.inr z))).tr (f3.mono (fun q z => Or.inl z))
  have k13 : k38 σ σ3 := (k1.tr (k38_fo f2 (oO_ne (by omega)))).tr k3
  refine pM_strangeOf_59 _ (fun s => Cs (wV w) (clr set p) ((s : Int) - 12)) (fun s => Cs_le _ _ _) σ3 l3.1 _ _ ?_ 25 5000 0 (by omega) (by omega)
  have hn := Ca_le (wV w) (2 ^ p)
  have hmb := mx_bd (fun s => Cs (wV w) (clr set p) ((s : Int) - 12)) (fun s => Cs_le _ _ _) 25
  by_cases c1 : Ca (wV w) (2 ^ p) = 0
  · rw [if_pos (by omega), zwp_some]
    refine ⟨f13, k13, h3, ?_⟩
    unfold stv stg
    rw [if_pos (Or.inl c1)]
  · rw [if_neg (by omega)]
    by_cases c2 : mx (fun s => Cs (wV w) (clr set p) ((s : Int) - 12)) 25 = 0
    · rw [if_neg (by omega), zwp_some]
      refine ⟨f13, k13, h3, ?_⟩
      unfold stv stg
      rw [if_pos (Or.inr c2)]
    · rw [if_pos (by omega)]
      have := pM_strangeOf_115 (fun s => Cs (wV w) (2 ^ p) ((s : Int) - 12)) (fun s => Cs (wV w) (clr set p) ((s : Int) - 12)) (Ca (wV w) (2 ^ p)) (by omega) (fun s => Cs_le _ _ _) (fun s => Cs_le _ _ _) σ3 (fun s hs => by rw [f3.rd (by unfold oMLp oML oSh; omega)]; exact v2 s hs) l3.1 (mx (fun s => Cs (wV w) (clr set p) ((s : Int) - 12)) 25) (by omega) (by omega) (fun s hs => mx_le (fun s => Cs (wV w) (clr set p) ((s : Int) - 12)) 25 s hs) 25 5000 0 (by omega) (by omega)
      refine ⟨_, _, this, f13, k13, h3, ?_⟩
      unfold stv stg
      rw [if_neg (by omega)]
/-- and to the class -/
theorem xStrange {w : Wd} (g : GI w) {σ : Zm} (h : XV 1 σ (wV w)) {set p : Nat} (hs : set < 16) (hp : p < 4) {F : Zm → Zr} {P : Int → Zm → Prop} (hF : ∀ σ', zfo (fun q => oT 218 q ∨ oT 221 q) σ σ' → XV 1 σ' (wV w) → fT_strangeBy σ' 218 221 = some (stv (wV w) set p, σ') → zwp (F σ') P) : zwp (zbv (fX_learn σ 221 (zand (set : Int) (zxor (zshl 1 (p : Int)) (-1))) 101) fun σ5 => zbv (fX_learn σ5 218 (zshl 1 (p : Int)) 101) F) P := by
  have hcl := clr_le set p
  have h16 := p2_16 hp
  rw [zclr (by omega) (by omega), zshl_1 (by omega)]
  refine xLearn g h (Or.inr rfl) (by omega) (by omega) (fun σ1 f1 h1 l1 => ?_)
  refine xLearn g h1 (Or.inl rfl) h16 (by omega) (fun σ2 f2 h2 l2 => ?_)
  refine hF σ2 ((f1.mono (fun q z => Or.inr z)).tr (f2.mono (fun q z => Or.inl z))) h2 ?_
  exact qT_strangeBy 218 221 σ2 _ _ _ (Ca_le _ _) (fun s => Cs_le _ _ _) (fun s => Cs_le _ _ _) l2.1 (fun s hs => by rw [f2.rd (by unfold oT; omega)]; exact l1.1 s hs) l2.2.1
theorem nX_strange {w : Wd} {σ : Zm} (g : GI w) (hX : XI w σ) (x1 x2 : Int) (c : ¬ ((0 ≤ x1 ∧ x1 ≤ 15) ∧ (0 ≤ x2 ∧ x2 ≤ 3))) : fX_strange σ x1 x2 = some ((-1), σ) := by
  unfold fX_strange
  by_cases c0 : 0 ≤ x1 ∧ x1 ≤ 15
  · rw [xSet_t c0, if_neg (by decide)]
    by_cases c1 : 0 ≤ x2 ∧ x2 ≤ 3
    · rw [xPiece_t c1, if_pos (by decide)]
      exact absurd (by grind) c
    · rw [xPiece_f c1, if_neg (by decide)]
  · rw [xSet_f c0, if_pos rfl]
theorem nM_strange {w : Wd} {σ : Zm} (g : GI w) (hM : MI w σ) (x1 x2 : Int) (c : ¬ ((0 ≤ x1 ∧ x1 ≤ 15) ∧ (0 ≤ x2 ∧ x2 ≤ 3))) : fM_strange σ x1 x2 = some ((-1), σ) := by
  unfold fM_strange
  by_cases c0 : 0 ≤ x1 ∧ x1 ≤ 15
  · rw [mSet_t c0, if_neg (by decide)]
    by_cases c1 : 0 ≤ x2 ∧ x2 ≤ 3
    · rw [mPiece_t c1, if_neg (by decide)]
      exact absurd (by grind) c
    · rw [mPiece_f c1, if_pos rfl]
  · rw [mSet_f c0, if_pos rfl]
theorem st_strange (x1 x2 : Int) : St (fun σ => fX_strange σ x1 x2) (fun σ => fM_strange σ x1 x2) := by
  intro σ h
  have hI := h
  obtain ⟨w, p, g, gp, hX, hM, hXT, hMP⟩ := h
  by_cases c : (0 ≤ x1 ∧ x1 ≤ 15) ∧ (0 ≤ x2 ∧ x2 ≤ 3)
  · obtain ⟨c1, c2⟩ := c
    obtain ⟨x, rfl, hx⟩ := nat_of (x := x1) (n := 16) (by omega)
    obtain ⟨y, rfl, hy⟩ := nat_of (x := x2) (n := 4) (by omega)
    show zwp (fX_strange σ (x : Int) (y : Int)) _
    unfold fX_strange
    rw [xSet_t c1, if_neg (by decide), xPiece_t c2, if_pos (by decide)]
    refine xStrange g hX.1.1 hx hy (fun σ1 f1 _ e1 => ?_)
    have g1 : zfo scX σ σ1 := zIn f1 (fun q z => by rcases z with z | z; exact oT_sc (Or.inl rfl) z; exact oT_sc (Or.inr rfl) z)
    have hM1 := MI_sX hM g1
    rw [zbi_eq e1, zwp_some]
    show zwp (fM_strange σ1 (x : Int) (y : Int)) _
    unfold fM_strange
    rw [mSet_t c1, if_neg (by decide), mPiece_t c2, if_neg (by decide), zwp_bi]
    refine zwp_mono (qM_strangeOf g hx hy σ1 hM1) (fun r σ2 ⟨f2, k2, h2, e2⟩ => ?_)
    rw [zwp_some, e2]
    exact ⟨rfl, Inv_sc hI g1 (f2.mono (fun q z => oMS_sc z)) (fun k a b => k2 k (by omega))⟩
  · exact St_neg hI (nX_strange g hX x1 x2 c) (nM_strange g hM x1 x2 c)
theorem qM_abs (σ : Zm) (x : Int) : fM_abs σ x = some (iab x, σ) := by
  unfold fM_abs iab
  by_cases c : 0 ≤ x
  · rw [if_pos c]; refine congrArg some (Prod.ext ?_ rfl); show x = _; omega
  · rw [if_neg c]; refine congrArg some (Prod.ext ?_ rfl); show -x = _; omega
theorem pM_apartOf_64 (A B : Nat → Nat) (n m' : Nat) (hn : 1 ≤ n) (hm' : 1 ≤ m') (hA : ∀ s, A s ≤ 1000) (hB : ∀ s, B s ≤ 1000) (σ : Zm) (hu : ∀ s, s < 25 → zrd σ 289 s = (A s : Int)) (hv : ∀ s, s < 25 → zrd σ 287 s = (B s : Int)) (h2 : zrd σ 273 38 = (m' : Int)) : ∀ (d m s : Nat), d < m → s + d = 25 → fM_apartOf_64 m (n : Int) (dsq A n B m' s) (s : Int) σ = some (dsq A n B m' 25, σ)
  | 0, m + 1, s, _, hs => by
    have : s = 25 := by omega
    subst this
    rw [fM_apartOf_64]
    dsimp only [zlet]
    rw [if_pos (by decide)]
  | d + 1, m + 1, i, hm, hi => by
    have h1 := dsq_bd A n B m' hA hB i
    have h1' := dsq_bd A n B m' hA hB (i + 1)
    have h3 := hA i
    have h4 := hB i
    have d1 : dq (1000 * A i) n ≤ 1000000 := Nat.le_trans (Nat.div_le_self _ _) (by omega)
    have d2 : dq (1000 * B i) m' ≤ 1000000 := Nat.le_trans (Nat.div_le_self _ _) (by omega)
    have ih := pM_apartOf_64 A B n m' hn hm' hA hB σ hu hv h2 d m (i + 1) (by omega) (by omega)
    rw [fM_apartOf_64]
    dsimp only [zlet]
    rw [if_neg (by omega), zckj (by omega) (by omega), Int.toNat_natCast, hu i (by omega)]
    unfold zdv
    rw [if_neg (by omega), zckj (by omega) (by omega), hv i (by omega), h2, if_neg (by omega), show zw (1000 * (A i : Int)) = ((1000 * A i : Nat) : Int) from zwj (by omega) (by omega), show zw (1000 * (B i : Int)) = ((1000 * B i : Nat) : Int) from zwj (by omega) (by omega), show Int.tdiv ((1000 * A i : Nat) : Int) (n : Int) = ((dq (1000 * A i) n : Nat) : Int) from rfl, show Int.tdiv ((1000 * B i : Nat) : Int) (m' : Int) = ((dq (1000 * B i) m' : Nat) : Int) from rfl, zwj (a := ((dq (1000 * A i) n : Nat) : Int) - ((dq (1000 * B i) m' : Nat) : Int)) (by omega) (by omega), zbi_eq (qM_abs σ _), zwj (a := iab (((dq (1000 * A i) n : Nat) : Int) - ((dq (1000 * B i) m' : Nat) : Int))) (by unfold iab; omega) (by unfold iab; omega), show zw ((i : Int) + 1) = ((i + 1 : Nat) : Int) from zwj (by omega) (by omega)]
    have e : dsq A n B m' (i + 1) = dsq A n B m' i + iab (((dq (1000 * A i) n : Nat) : Int) - ((dq (1000 * B i) m' : Nat) : Int)) := rfl
    rw [← e, zwj (a := dsq A n B m' (i + 1)) (by omega) (by omega)]
    exact ih
def dsv (V : Nat → Ln) (s1 s2 : Nat) : Int := dst (fun s => Cs V s1 ((s : Int) - 12)) (Ca V s1) (fun s => Cs V s2 ((s : Int) - 12)) (Ca V s2)
theorem dsv_bd (V : Nat → Ln) (s1 s2 : Nat) : -1 ≤ dsv V s1 s2 ∧ dsv V s1 s2 ≤ 25000000 := by
  unfold dsv dst
  split
  · omega
  · have := dsq_bd (fun s => Cs V s1 ((s : Int) - 12)) (Ca V s1) (fun s => Cs V s2 ((s : Int) - 12)) (Ca V s2) (fun s => Cs_le _ _ _) (fun s => Cs_le _ _ _) 25
    omega
theorem qM_apartOf {w : Wd} (g : GI w) {s1 s2 : Nat} (hs : s1 < 16) (hs2 : s2 < 16) (σ : Zm) (h : MI w σ) : zwp (fM_apartOf σ (s1 : Int) (s2 : Int)) (fun r σ' => zfo oMS σ σ' ∧ k38 σ σ' ∧ MI w σ' ∧ r = dsv (wV w) s1 s2) := by
  unfold fM_apartOf
  refine mLearn g h hs (fun σ1 f1 k1 h1 l1 => ?_)
  rw [zwp_let, l1.2.1]
  refine pM_apartOf_13 _ _ (fun s => Cs (wV w) s1 ((s : Int) - 12)) (fun s => Cs_le _ _ _) σ1 l1.1 _ _ (fun σ2 f2 v2 => ?_) 25 5000 0 σ1 (by omega) (by omega) zfo.rf (fun k hk => absurd hk (by omega))
  have h2 : MI w σ2 := MI_fo h1 f2 (oO_ne (by omega)) (oO_ne (by omega)) (oO_ne (by omega))
  refine mLearn g h2 hs2 (fun σ3 f3 k3 h3 l3 => ?_)
  have f13 : zfo oMS σ σ3 := ((f1.mono (fun q z => Or.inl z)).tr (f2.mono (fun q z => Or.inr z))).tr (f3.mono (fun q z => Or.inl z))
  have k13 : k38 σ σ3 := (k1.tr (k38_fo f2 (oO_ne (by omega)))).tr k3
  have hn := Ca_le (wV w) s1
  have hn2 := Ca_le (wV w) s2
  by_cases c1 : Ca (wV w) s1 = 0
  · rw [if_pos (by omega), zwp_some]
    refine ⟨f13, k13, h3, ?_⟩
    unfold dsv dst
    rw [if_pos (Or.inl c1)]
  · rw [if_neg (by omega), zwp_let, l3.2.1]
    by_cases c2 : Ca (wV w) s2 = 0
    · rw [if_neg (by omega), zwp_some]
      refine ⟨f13, k13, h3, ?_⟩
      unfold dsv dst
      rw [if_pos (Or.inr c2)]
    · rw [if_pos (by omega)]
      have := pM_apartOf_64 (fun s => Cs (wV w) s1 ((s : Int) - 12)) (fun s => Cs (wV w) s2 ((s : Int) - 12)) (Ca (wV w) s1) (Ca (wV w) s2) (by omega) (by omega) (fun s => Cs_le _ _ _) (fun s => Cs_le _ _ _) σ3 (fun s hs => by rw [f3.rd (by unfold oMLp oML oSh; omega)]; exact v2 s hs) l3.1 l3.2.1 25 5000 0 (by omega) (by omega)
      refine ⟨_, _, this, f13, k13, h3, ?_⟩
      unfold dsv dst
      rw [if_neg (by omega)]
theorem qT_dist {σ : Zm} {V : Nat → Ln} {s1 s2 : Nat} {b b' : Int} (l1 : lrn 218 V s1 b σ) (l2 : lrn 221 V s2 b' σ) : fT_distanceTo σ 218 221 = some (dsv V s1 s2, σ) := qT_distanceTo 218 221 σ _ _ _ _ (fun s => Cs_le _ _ _) (fun s => Cs_le _ _ _) l1.1 l2.1 l1.2.1 l2.2.1
theorem lrn_fo {D : Nat → Prop} {o : Nat} {V : Nat → Ln} {set : Nat} {b : Int} {σ σ1 : Zm} (h : lrn o V set b σ) (hf : zfo D σ σ1) (h0 : ¬ D o) (h1 : ¬ D (o + 1)) (h2 : ¬ D (o + 2)) : lrn o V set b σ1 := by
  obtain ⟨a1, a2, a3, a4⟩ := h
  exact ⟨fun s hs => by rw [hf.rd h1]; exact a1 s hs, by rw [hf.rd h0]; exact a2, fun s hs => by rw [hf.rd h2]; exact a3 s hs, by rw [hf.rd h0]; exact a4⟩
theorem nX_apart {w : Wd} {σ : Zm} (g : GI w) (hX : XI w σ) (x1 x2 : Int) (c : ¬ ((0 ≤ x1 ∧ x1 ≤ 15) ∧ (0 ≤ x2 ∧ x2 ≤ 15))) : fX_apart σ x1 x2 = some ((-1), σ) := by
  unfold fX_apart
  by_cases c0 : 0 ≤ x1 ∧ x1 ≤ 15
  · rw [xSet_t c0, if_neg (by decide)]
    by_cases c1 : 0 ≤ x2 ∧ x2 ≤ 15
    · rw [xSet_t c1, if_pos (by decide)]
      exact absurd (by grind) c
    · rw [xSet_f c1, if_neg (by decide)]
  · rw [xSet_f c0, if_pos rfl]
theorem nM_apart {w : Wd} {σ : Zm} (g : GI w) (hM : MI w σ) (x1 x2 : Int) (c : ¬ ((0 ≤ x1 ∧ x1 ≤ 15) ∧ (0 ≤ x2 ∧ x2 ≤ 15))) : fM_apart σ x1 x2 = some ((-1), σ) := by
  unfold fM_apart
  by_cases c0 : 0 ≤ x1 ∧ x1 ≤ 15
  · rw [mSet_t c0, if_neg (by decide)]
    by_cases c1 : 0 ≤ x2 ∧ x2 ≤ 15
    · rw [mSet_t c1, if_neg (by decide)]
      exact absurd (by grind) c
    · rw [mSet_f c1, if_pos rfl]
  · rw [mSet_f c0, if_pos rfl]
theorem st_apart (x1 x2 : Int) : St (fun σ => fX_apart σ x1 x2) (fun σ => fM_apart σ x1 x2) := by
  intro σ h
  have hI := h
  obtain ⟨w, p, g, gp, hX, hM, hXT, hMP⟩ := h
  by_cases c : (0 ≤ x1 ∧ x1 ≤ 15) ∧ (0 ≤ x2 ∧ x2 ≤ 15)
  · obtain ⟨c1, c2⟩ := c
    obtain ⟨x, rfl, hx⟩ := nat_of (x := x1) (n := 16) (by omega)
    obtain ⟨y, rfl, hy⟩ := nat_of (x := x2) (n := 16) (by omega)
    show zwp (fX_apart σ (x : Int) (y : Int)) _
    unfold fX_apart
    rw [xSet_t c1, if_neg (by decide), xSet_t c2, if_pos (by decide)]
    refine xLearn g hX.1.1 (Or.inl rfl) hx (by omega) (fun σ1 f1 h1 l1 => ?_)
    refine xLearn g h1 (Or.inr rfl) hy (by omega) (fun σ2 f2 h2 l2 => ?_)
    have g1 : zfo scX σ σ2 := (zIn f1 (fun q z => oT_sc (Or.inl rfl) z)).tr (zIn f2 (fun q z => oT_sc (Or.inr rfl) z))
    have hM1 := MI_sX hM g1
    rw [zbi_eq (qT_dist (lrn_fo l1 f2 (by unfold oT; omega) (by unfold oT; omega) (by unfold oT; omega)) l2), zwp_some]
    show zwp (fM_apart σ2 (x : Int) (y : Int)) _
    unfold fM_apart
    rw [mSet_t c1, if_neg (by decide), mSet_t c2, if_neg (by decide), zwp_bi]
    refine zwp_mono (qM_apartOf g hx hy σ2 hM1) (fun r σ3 ⟨f3, k3, h3, e3⟩ => ?_)
    rw [zwp_some, e3]
    exact ⟨rfl, Inv_sc hI g1 (f3.mono (fun q z => oMS_sc z)) (fun k a b => k3 k (by omega))⟩
  · exact St_neg hI (nX_apart g hX x1 x2 c) (nM_apart g hM x1 x2 c)

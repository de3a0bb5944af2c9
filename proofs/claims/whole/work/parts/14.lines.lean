/-! MY OWN: a line as a row of (kind, pitch), and what the Line's methods do to it -/
abbrev Ln : Type := Nat → Int × Int
def ln (n : Nat) (σ : Zm) (o : Nat) : Ln := fun t => if t < n ∧ zrd σ (o + 2) t ≠ 0 then (zrd σ (o + 2) t, zrd σ (o + 1) t) else (0, 0)
def zli (n o : Nat) : Prop := zLN (o + 1) = n ∧ zLN (o + 2) = n
theorem ln_1 {n : Nat} {σ : Zm} {o t : Nat} (h : t < n) : (ln n σ o t).1 = zrd σ (o + 2) t := by
  unfold ln
  by_cases h2 : zrd σ (o + 2) t ≠ 0
  · rw [if_pos ⟨h, h2⟩]
  · rw [if_neg (fun q => h2 q.2)]; simp only [ne_eq, Decidable.not_not] at h2; rw [h2]
theorem ln_2 {n : Nat} {σ : Zm} {o t : Nat} (h : t < n) (h2 : zrd σ (o + 2) t ≠ 0) : (ln n σ o t).2 = zrd σ (o + 1) t := by
  unfold ln
  rw [if_pos ⟨h, h2⟩]
theorem ln_out {n : Nat} {σ : Zm} {o t : Nat} (h : ¬ t < n) : ln n σ o t = (0, 0) := by
  unfold ln
  rw [if_neg (fun q => h q.1)]
theorem ln_0 {n : Nat} {σ : Zm} {o t : Nat} (h : (ln n σ o t).1 = 0) : ln n σ o t = (0, 0) := by
  by_cases h1 : t < n
  · rw [ln_1 h1] at h
    unfold ln
    rw [if_neg (fun q => q.2 h)]
  · exact ln_out h1
theorem ln_fo {n : Nat} {D : Nat → Prop} {σ σ1 : Zm} {o : Nat} (h : zfo D σ σ1) (h1 : ¬ D (o + 1)) (h2 : ¬ D (o + 2)) : ln n σ1 o = ln n σ o := by
  funext t
  unfold ln
  rw [h.rd h2, h.rd h1]
theorem ln_ext {n : Nat} {σ τ : Zm} {o p : Nat} (h : ∀ t, t < n → zrd σ (o + 2) t = zrd τ (p + 2) t ∧ (zrd σ (o + 2) t ≠ 0 → zrd σ (o + 1) t = zrd τ (p + 1) t)) : ln n σ o = ln n τ p := by
  funext t
  unfold ln
  by_cases h1 : t < n
  · obtain ⟨h2, h3⟩ := h t h1
    rw [← h2]
    by_cases h4 : zrd σ (o + 2) t ≠ 0
    · rw [if_pos ⟨h1, h4⟩, if_pos ⟨h1, h4⟩, h3 h4]
    · rw [if_neg (fun q => h4 q.2), if_neg (fun q => h4 q.2)]
  · rw [if_neg (fun q => h1 q.1), if_neg (fun q => h1 q.1)]
def oD (o : Nat) : Nat → Prop := fun q => q = o + 1 ∨ q = o + 2
theorem pL_fill_12 (o n : Nat) (hn : zli n o) (p k e : Int) (hp : zw p = p) (hk : zw k = k) (he : e ≤ n) (h32 : n ≤ 32) (K : Nat → Int → Zm → Zr) (P : Int → Zm → Prop) : ∀ (d m : Nat) (σ : Zm) (i : Nat), d < m → (i : Int) + d = e → (∀ σ', zfo (oD o) σ σ' → (∀ t : Nat, zrd σ' (o + 1) t = (if i ≤ t ∧ (t : Int) < e then p else zrd σ (o + 1) t) ∧ zrd σ' (o + 2) t = (if i ≤ t ∧ (t : Int) < e then k else zrd σ (o + 2) t)) → zwp (K o e σ') P) → zwp (fL_fill_12 m o p k e (i : Int) σ K) P
  | 0, m + 1, σ, i, _, hi, h => by
    rw [fL_fill_12]
    simp only [zwp_let]
    rw [if_pos (by omega)]
    refine h σ zfo.rf (fun t => ?_)
    grind
  | d + 1, m + 1, σ, i, hd, hi, h => by
    have h1 := hn.1
    have h2 := hn.2
    rw [fL_fill_12]
    simp (disch := omega) only [zwp_let, ifn, zckj, Int.toNat_natCast]
    rw [show zw ((i : Int) + 1) = ((i + 1 : Nat) : Int) from zwj (by omega) (by omega)]
    refine pL_fill_12 o n hn p k e hp hk he h32 K P d m _ (i + 1) (by omega) (by omega) (fun σ' hf hv => h σ' ?_ ?_)
    · exact ((zfo.rf.st (Or.inl rfl)).st (Or.inr rfl)).tr hf
    · intro t
      obtain ⟨a, b⟩ := hv t
      rw [a, b]
      simp only [zrd_st]
      rw [hp, hk]
      grind
theorem zbi_eq {e : Zr} {v : Int} {σ : Zm} {F : Int → Zm → Zr} (h : e = some (v, σ)) : zbi e F = F (zw v) σ := by rw [h]; rfl
theorem zbv_eq {e : Zr} {v : Int} {σ : Zm} {F : Zm → Zr} (h : e = some (v, σ)) : zbv e F = F σ := by rw [h]; rfl
theorem pwithin_t {σ : Zm} {x a b : Int} {F : Int → Zm → Zr} (h : a ≤ x ∧ x ≤ b) : zbi (fX_within σ x a b) F = F 1 σ := by rw [pX_within, if_pos h]; rfl
theorem pwithin_f {σ : Zm} {x a b : Int} {F : Int → Zm → Zr} (h : ¬ (a ≤ x ∧ x ≤ b)) : zbi (fX_within σ x a b) F = F 0 σ := by rw [pX_within, if_neg h]; rfl
theorem pL_fill_52 (o n : Nat) (hn : zli n o) (h32 : n ≤ 32) (σ : Zm) (e : Nat) : zwp (fL_fill_52 o (e : Int) σ) (fun _ σ' => zfo (oD o) σ σ' ∧ (∀ t : Nat, zrd σ' (o + 1) t = zrd σ (o + 1) t ∧ zrd σ' (o + 2) t = (if t = e ∧ t < n ∧ zrd σ (o + 2) t = 2 then 1 else zrd σ (o + 2) t))) := by
  have h1 := hn.1
  have h2 := hn.2
  unfold fL_fill_52
  rw [h2, show zw ((n : Int) - 1) = (n : Int) - 1 from zwj (by omega) (by omega)]
  by_cases c : e < n
  · rw [pwithin_t (by omega), if_neg (by decide)]
    simp (disch := omega) only [zwp_let, zckj, Int.toNat_natCast]
    by_cases c2 : zrd σ (o + 2) e = 2
    · simp (disch := omega) only [ifn, zckj, zwp_let, zwp_some]
      refine ⟨zfo.rf.st (Or.inr rfl), fun t => ?_⟩
      simp only [zrd_st, zw_1]
      grind
    · simp (disch := omega) only [ifp, zwp_some]
      refine ⟨zfo.rf, fun t => ?_⟩
      grind
  · rw [pwithin_f (by omega), if_pos rfl, zwp_some]
    refine ⟨zfo.rf, fun t => ?_⟩
    grind
theorem pL_fill (o n : Nat) (hn : zli n o) (h32 : n ≤ 32) (σ : Zm) (b l : Nat) (p k : Int) (hp : zw p = p) (hk : zw k = k) (hb : b + l ≤ n) : zwp (fL_fill σ o (b : Int) (l : Int) p k) (fun _ σ' => zfo (oD o) σ σ' ∧ (∀ t : Nat, zrd σ' (o + 1) t = (if b ≤ t ∧ t < b + l then p else zrd σ (o + 1) t) ∧ zrd σ' (o + 2) t = (if b ≤ t ∧ t < b + l then k else if t = b + l ∧ t < n ∧ zrd σ (o + 2) t = 2 then 1 else zrd σ (o + 2) t))) := by
  unfold fL_fill
  simp only [zwp_let]
  rw [show zw ((b : Int) + (l : Int)) = ((b + l : Nat) : Int) from zwj (by omega) (by omega), show max (0 : Int) (b : Int) = (b : Int) by omega]
  refine pL_fill_12 o n hn p k _ hp hk (by omega) h32 _ _ l _ σ b (by omega) (by omega) (fun σ1 hf hv => ?_)
  refine zwp_mono (pL_fill_52 o n hn h32 σ1 (b + l)) (fun r σ2 ⟨hf2, hv2⟩ => ⟨hf.tr hf2, fun t => ?_⟩)
  rw [(hv2 t).1, (hv2 t).2, (hv t).1, (hv t).2]
  grind
def lsing (a : Ln) (b l : Nat) (p : Int) : Ln := fun t => if t = b then (1, p) else if b ≤ t ∧ t < b + l then (2, p) else if t = b + l ∧ (a t).1 = 2 then (1, (a t).2) else a t
def lsil (a : Ln) (b l : Nat) : Ln := fun t => if b ≤ t ∧ t < b + l then (0, 0) else if t = b + l ∧ (a t).1 = 2 then (1, (a t).2) else a t
/-- a rest's pitch is 0 -/
def lz (n : Nat) (σ : Zm) (o : Nat) : Prop := ∀ t, t < n → zrd σ (o + 2) t = 0 → zrd σ (o + 1) t = 0
theorem pL_sing (o n : Nat) (hn : zli n o) (h32 : n ≤ 32) (σ : Zm) (b l : Nat) (p : Int) (hp : zw p = p) (hb : b + l ≤ n) (hl : 1 ≤ l) : zwp (fL_sing σ o (b : Int) p (l : Int)) (fun _ σ' => zfo (oD o) σ σ' ∧ ln n σ' o = lsing (ln n σ o) b l p ∧ (lz n σ o → lz n σ' o)) := by
  have h1 := hn.1
  have h2 := hn.2
  unfold fL_sing
  rw [zwp_bv]
  refine zwp_mono (pL_fill o n hn h32 σ b l p 2 hp (by decide) hb) (fun r σ1 ⟨hf, hv⟩ => ?_)
  rw [h2, show zw ((n : Int) - 1) = (n : Int) - 1 from zwj (by omega) (by omega), pwithin_t (by omega), if_neg (by decide)]
  simp (disch := omega) only [zwp_let, zckj, Int.toNat_natCast, zwp_some]
  have hv2 : ∀ t, zrd (zst σ1 (o + 2) b 1) (o + 2) t = if t = b then 1 else if b ≤ t ∧ t < b + l then 2 else if t = b + l ∧ t < n ∧ zrd σ (o + 2) t = 2 then 1 else zrd σ (o + 2) t := by
    intro t
    rw [zrd_st, (hv t).2, zw_1]
    grind
  have hv1 : ∀ t, zrd (zst σ1 (o + 2) b 1) (o + 1) t = if b ≤ t ∧ t < b + l then p else zrd σ (o + 1) t := by
    intro t
    rw [zrd_st, if_neg (by omega), (hv t).1]
  refine ⟨hf.st (Or.inr rfl), ?_, ?_⟩
  · funext t
    unfold ln lsing
    rw [hv2, hv1]
    grind
  · intro hz t ht h0
    have := hz t ht
    rw [hv2] at h0
    rw [hv1]
    grind
theorem pL_silence (o n : Nat) (hn : zli n o) (h32 : n ≤ 32) (σ : Zm) (b l : Nat) (hb : b + l ≤ n) : zwp (fL_silence σ o (b : Int) (l : Int)) (fun _ σ' => zfo (oD o) σ σ' ∧ ln n σ' o = lsil (ln n σ o) b l ∧ (lz n σ o → lz n σ' o)) := by
  unfold fL_silence
  rw [zwp_bv]
  refine zwp_mono (pL_fill o n hn h32 σ b l 0 0 (by decide) (by decide) hb) (fun r σ1 ⟨hf, hv⟩ => ?_)
  rw [zwp_some]
  refine ⟨hf, ?_, ?_⟩
  · funext t
    unfold ln lsil
    rw [(hv t).2, (hv t).1]
    grind
  · intro hz t ht h0
    have := hz t ht
    rw [(hv t).2] at h0
    rw [(hv t).1]
    grind

def lbt (a : Ln) : Nat := pbt (fun t => (a t).1) 32
def lna (a : Ln) (x : Nat) : Int := pna (fun t => (a t).1) x
def lra (a : Ln) (x : Nat) : Nat := pra (fun t => (a t).1) x
theorem pbt_cg {f g : Nat → Int} : ∀ (n : Nat), (∀ t, t < n → f t = g t) → pbt f n = pbt g n
  | 0, _ => rfl
  | n + 1, h => by
    unfold pbt
    rw [h n (by omega), pbt_cg n (fun t ht => h t (by omega))]
theorem pna_cg {f g : Nat → Int} : ∀ (n : Nat), (∀ t, t < n → f t = g t) → pna f n = pna g n
  | 0, _ => rfl
  | n + 1, h => by
    unfold pna
    rw [h n (by omega), pna_cg n (fun t ht => h t (by omega))]
theorem pra_cg {f g : Nat → Int} : ∀ (n : Nat), (∀ t, t < n → f t = g t) → pra f n = pra g n
  | 0, _ => rfl
  | n + 1, h => by
    unfold pra
    rw [h n (by omega), pra_cg n (fun t ht => h t (by omega))]
theorem pbt_ext {f : Nat → Int} {n : Nat} : ∀ (m : Nat), (∀ t, n ≤ t → f t = 0) → n ≤ m → pbt f m = pbt f n
  | 0, _, hm => by rw [show n = 0 by omega]
  | m + 1, h, hm => by
    by_cases c : n = m + 1
    · rw [c]
    · show (if f m = 0 then pbt f m else m + 1) = _
      rw [if_pos (h m (by omega)), pbt_ext m h (by omega)]
theorem pna_ext {f : Nat → Int} {n : Nat} : ∀ (m : Nat), (∀ t, n ≤ t → f t = 0) → n ≤ m → pna f m = pna f n
  | 0, _, hm => by rw [show n = 0 by omega]
  | m + 1, h, hm => by
    by_cases c : n = m + 1
    · rw [c]
    · show (if f m = 1 then (m : Int) else pna f m) = _
      rw [if_neg (by rw [h m (by omega)]; decide), pna_ext m h (by omega)]
theorem lbt_n {n : Nat} {σ : Zm} {o : Nat} (h32 : n ≤ 32) : lbt (ln n σ o) = pbt (fun t => zrd σ (o + 2) t) n := by
  unfold lbt
  rw [pbt_ext (n := n) 32 (fun t ht => by rw [ln_out (by omega)]) h32]
  exact pbt_cg n (fun t ht => ln_1 ht)
theorem lna_n {n : Nat} {σ : Zm} {o x : Nat} : lna (ln n σ o) x = pna (fun t => zrd σ (o + 2) t) (min x n) := by
  unfold lna
  by_cases c : x ≤ n
  · rw [Nat.min_eq_left c]
    exact pna_cg x (fun t ht => ln_1 (by omega))
  · rw [Nat.min_eq_right (by omega), pna_ext (n := n) x (fun t ht => by rw [ln_out (by omega)]) (by omega)]
    exact pna_cg n (fun t ht => ln_1 ht)
theorem qL_beats {o n : Nat} (hn : zli n o) (h32 : n ≤ 32) (σ : Zm) : fL_beats σ o = some ((lbt (ln n σ o) : Int), σ) := by
  rw [pL_beats σ o (by rw [hn.2]; exact h32), lbt_n h32, hn.2]
theorem qL_noteAhead {o n : Nat} (hn : zli n o) (h32 : n ≤ 32) (σ : Zm) (x : Int) (hx : -1 ≤ x) : fL_noteAhead σ o x = some (lna (ln n σ o) x.toNat, σ) := by
  rw [pL_noteAhead σ o x hx (by rw [hn.2]; exact h32), lna_n, hn.2]
theorem pL_restsAhead_14 (σ : Zm) (o : Nat) : ∀ (i n : Nat) (r : Nat), i ≤ zLN (o + 2) → i < n → r + i ≤ 64 → fL_restsAhead_14 n o r ((i : Int) - 1) σ = some (((r + pra (fun t => zrd σ (o + 2) t) i : Nat) : Int), σ)
  | 0, n + 1, r, _, _, _ => by
    rw [fL_restsAhead_14]
    rfl
  | i + 1, n + 1, r, h, hn, hr => by
    have hl := pLN_le (o + 2)
    have e0 : ((i + 1 : Nat) : Int) - 1 = (i : Int) := by omega
    have e2 : zw ((i : Int) + (-1)) = (i : Int) - 1 := zw_id (by omega) (by omega)
    have e3 : zw ((r : Int) + 1) = ((r + 1 : Nat) : Int) := zw_id (by omega) (by omega)
    rw [fL_restsAhead_14, e0]
    dsimp only [zlet]
    rw [if_neg (by omega), zck_ok (by omega), e2, e3, Int.toNat_natCast, pL_restsAhead_14 σ o i n (r + 1) (by omega) (by omega) (by omega)]
    show _ = some (((r + if zrd σ (o + 2) i = 0 then pra _ i + 1 else 0 : Nat) : Int), σ)
    by_cases h1 : zrd σ (o + 2) i = 0
    · rw [if_neg (by simpa using h1), if_pos h1]
      congr 3
      omega
    · rw [if_pos h1, if_neg h1]
      rfl
theorem qL_restsAhead {o : Nat} (hn : zli 32 o) (σ : Zm) (x : Nat) (hx : x ≤ 32) : fL_restsAhead σ o (x : Int) = some ((lra (ln 32 σ o) x : Int), σ) := by
  unfold fL_restsAhead
  dsimp only [zlet]
  rw [hn.2, show zw (min (x : Int) ((32 : Nat) : Int) - 1) = (x : Int) - 1 by rw [zw_id (by omega) (by omega)]; omega]
  have := pL_restsAhead_14 σ o x 5000 0 (by rw [hn.2]; exact hx) (by omega) (by omega)
  rw [show ((0 : Nat) : Int) = 0 from rfl] at this
  rw [this]
  unfold lra
  rw [pra_cg (g := fun t => zrd σ (o + 2) t) x (fun t ht => ln_1 (by omega))]
  simp
def lsi (a : Ln) (x : Int) : Int := if 0 ≤ x ∧ (a x.toNat).1 ≠ 0 then 1 else 0
theorem qL_sounds {o : Nat} (hn : zli 32 o) (σ : Zm) (x : Int) : fL_sounds σ o x = some (lsi (ln 32 σ o) x, σ) := by
  have h1 := hn.1
  have h2 := hn.2
  unfold fL_sounds lsi
  rw [h2, show zw (((32 : Nat) : Int) - 1) = 31 from by decide]
  by_cases c : 0 ≤ x ∧ x ≤ 31
  · rw [pwithin_t c, if_neg (by decide)]
    simp (disch := omega) only [zckj, zlet]
    have e : (ln 32 σ o x.toNat).1 = zrd σ (o + 2) x.toNat := ln_1 (by omega)
    by_cases c2 : zrd σ (o + 2) x.toNat = 0
    · rw [if_pos c2, if_neg (fun q => q.2 (by rw [e, c2]))]
    · rw [if_neg c2, if_pos ⟨c.1, by rw [e]; exact c2⟩]
  · rw [pwithin_f c, if_pos rfl, if_neg]
    rintro ⟨q1, q2⟩
    exact q2 (by rw [ln_out (by omega)])
theorem lsi_w (a : Ln) (x : Int) : zw (lsi a x) = lsi a x := by
  unfold lsi
  split <;> decide
theorem qL_take {o o1 n : Nat} (hn : zli n o) (hn1 : zli n o1) (hd : o + 1 ≠ o1 + 2) (σ : Zm) : zwp (fL_take σ o o1) (fun _ σ' => zfo (oD o) σ σ' ∧ ln n σ' o = ln n σ o1 ∧ (lz n σ o1 → lz n σ' o)) := by
  have h1 := hn.1
  have h2 := hn.2
  have h3 := hn1.1
  have h4 := hn1.2
  unfold fL_take
  simp only [zwp_let]
  rw [if_pos (by omega), zwp_let, if_pos (by omega), zwp_let, zwp_some]
  refine ⟨(zfo.rf.cp (Or.inl rfl)).cp (Or.inr rfl), ?_, ?_⟩
  · refine ln_ext (fun t ht => ?_)
    simp only [zrd_cp]
    grind
  · intro hz t ht
    have := hz t ht
    simp only [zrd_cp]
    grind
theorem ite_cg {α : Type} {c d : Prop} {dc : Decidable c} {dd : Decidable d} {a b : α} (h : c ↔ d) : (if c then a else b) = if d then a else b := by
  by_cases q : c
  · rw [if_pos q, if_pos (h.mp q)]
  · rw [if_neg q, if_neg (fun z => q (h.mpr z))]
theorem and_cg {a b c : Prop} (h : a ↔ b) : (a ∧ c) ↔ (b ∧ c) := by rw [h]
theorem pL_isLike_2 {o o1 n : Nat} (hn : zli n o) (hn1 : zli n o1) (h32 : n ≤ 32) (σ : Zm) (hz : lz n σ o) (hz1 : lz n σ o1) (k : Nat) (hk : k ≤ n) : ∀ (d m i : Nat), d < m → i + d = k → fL_isLike_2 m o o1 (k : Int) (i : Int) σ = some (if (∀ t, t < k → i ≤ t → ln n σ o t = ln n σ o1 t) then 1 else 0, σ)
  | 0, m + 1, i, _, hi => by
    rw [fL_isLike_2]
    dsimp only [zlet]
    rw [if_pos (by omega), if_pos (by intro t _ _; omega)]
  | d + 1, m + 1, i, hd, hi => by
    have h1 := hn.1
    have h2 := hn.2
    have h3 := hn1.1
    have h4 := hn1.2
    rw [fL_isLike_2]
    dsimp only [zlet]
    rw [if_neg (by omega), if_neg (by omega), if_neg (by omega), zckj (by omega) (by omega), zckj (by omega) (by omega), zckj (by omega) (by omega), zckj (by omega) (by omega)]
    rw [show zw ((i : Int) + 1) = ((i + 1 : Nat) : Int) from zwj (by omega) (by omega), Int.toNat_natCast]
    rw [pL_isLike_2 hn hn1 h32 σ hz hz1 k hk d m (i + 1) (by omega) (by omega)]
    have a0 := hz i (by omega)
    have b0 := hz1 i (by omega)
    have key : ln n σ o i = ln n σ o1 i ↔ zrd σ (o + 2) i = zrd σ (o1 + 2) i ∧ zrd σ (o + 1) i = zrd σ (o1 + 1) i := by
      unfold ln
      grind
    have e : (∀ t, t < k → i ≤ t → ln n σ o t = ln n σ o1 t) ↔ ln n σ o i = ln n σ o1 i ∧ (∀ t, t < k → i + 1 ≤ t → ln n σ o t = ln n σ o1 t) := by
      constructor
      · intro q
        exact ⟨q i (by omega) (by omega), fun t ht hi2 => q t ht (by omega)⟩
      · rintro ⟨q1, q2⟩ t ht hi2
        by_cases e : t = i
        · rw [e]; exact q1
        · exact q2 t ht (by omega)
    grind
theorem qL_isLike {o o1 n : Nat} (hn : zli n o) (hn1 : zli n o1) (h32 : n ≤ 32) (σ : Zm) (hz : lz n σ o) (hz1 : lz n σ o1) (k : Nat) (hk : k ≤ n) : fL_isLike σ o o1 (k : Int) = some (if (∀ t, t < k → ln n σ o t = ln n σ o1 t) then 1 else 0, σ) := by
  unfold fL_isLike
  have := pL_isLike_2 hn hn1 h32 σ hz hz1 k hk k 5000 0 (by omega) (by omega)
  rw [show ((0 : Nat) : Int) = 0 from rfl] at this
  rw [this, ite_cg (show (∀ t, t < k → 0 ≤ t → ln n σ o t = ln n σ o1 t) ↔ (∀ t, t < k → ln n σ o t = ln n σ o1 t) from ⟨fun q t ht => q t ht (by omega), fun q t ht _ => q t ht⟩)]

def lov (a : Ln) (c : Int) : Ln := fun t => if (a t).1 = 0 then (0, 0) else ((a t).1, c - (a t).2)
/-- pitches are small -/
def lsm (a : Ln) : Prop := ∀ t, -1000 ≤ (a t).2 ∧ (a t).2 ≤ 1000
/-- whether the first beats can stand on their head -/
def loc (a : Ln) (c : Int) : Nat → Int
  | 0 => 1
  | i + 1 => if (a i).1 = 0 ∨ (0 ≤ c - (a i).2 ∧ c - (a i).2 ≤ 60) then loc a c i else 0
theorem loc_01 (a : Ln) (c : Int) : ∀ i, loc a c i = 0 ∨ loc a c i = 1
  | 0 => Or.inr rfl
  | i + 1 => by
    unfold loc
    split
    · exact loc_01 a c i
    · exact Or.inl rfl
theorem pL_takeOverturned_10 {o : Nat} (hn : zli 32 o) (a : Ln) (ha : lsm a) (c : Int) (hc : 0 ≤ c ∧ c ≤ 120) (σ0 : Zm) : ∀ (d m i : Nat) (σ : Zm), d < m → i + d = 32 → zfo (oD o) σ0 σ → ln 32 σ o = (fun t => if t < i then lov a c t else a t) → zwp (fL_takeOverturned_10 m o c (loc a c i) (i : Int) σ) (fun r σ' => zfo (oD o) σ0 σ' ∧ ln 32 σ' o = lov a c ∧ r = loc a c 32)
  | 0, m + 1, i, σ, _, hi, hf, hl => by
    have h2 := hn.2
    rw [fL_takeOverturned_10]
    simp only [zwp_let]
    rw [if_pos (by omega), zwp_some]
    have e : i = 32 := by omega
    subst e
    refine ⟨hf, ?_, ?_⟩
    · rw [hl]
      funext t
      have h3 : ¬ t < 32 → ln 32 σ o t = (0, 0) := ln_out
      rw [hl] at h3
      unfold lov
      grind
    · rcases loc_01 a c 32 with h | h <;> rw [h] <;> decide
  | d + 1, m + 1, i, σ, hd, hi, hf, hl => by
    have h1 := hn.1
    have h2 := hn.2
    have e1 : (ln 32 σ o i).1 = zrd σ (o + 2) i := ln_1 (by omega)
    have e2 : zrd σ (o + 2) i ≠ 0 → (ln 32 σ o i).2 = zrd σ (o + 1) i := ln_2 (by omega)
    have e3 : ln 32 σ o i = a i := by rw [hl]; simp
    have hai := ha i
    have ec : loc a c (i + 1) = if (a i).1 = 0 ∨ (0 ≤ c - (a i).2 ∧ c - (a i).2 ≤ 60) then loc a c i else 0 := rfl
    rw [fL_takeOverturned_10]
    simp only [zwp_let]
    rw [if_neg (by omega), zckj (by omega) (by omega)]
    rw [show zw ((i : Int) + 1) = ((i + 1 : Nat) : Int) from zwj (by omega) (by omega), Int.toNat_natCast, zwp_let]
    by_cases c1 : zrd σ (o + 2) i = 0
    · rw [if_pos c1]
      rw [show loc a c i = loc a c (i + 1) by rw [ec, if_pos (Or.inl (by rw [← e3, e1, c1]))]]
      refine pL_takeOverturned_10 hn a ha c hc σ0 d m (i + 1) σ (by omega) (by omega) hf ?_
      rw [hl]
      funext t
      unfold lov
      have := @ln_0 32 σ o i (by rw [e1, c1])
      grind
    · rw [if_neg c1, zckj (by omega) (by omega), zwp_let, zckj (by omega) (by omega), zwp_let]
      have e4 : zrd σ (o + 1) i = (a i).2 := by rw [← e3, e2 c1]
      rw [e4]
      have hw : zw (c - (a i).2) = c - (a i).2 := zwj (by omega) (by omega)
      have hl' : ln 32 (zst σ (o + 1) i (c - (a i).2)) o = (fun t => if t < i + 1 then lov a c t else a t) := by
        funext t
        have e5 := congrFun hl t
        unfold ln at e5 ⊢
        rw [zrd_st, zrd_st, hw, if_neg (show ¬ (o + 2 = o + 1 ∧ t = i) by omega)]
        unfold lov at e5 ⊢
        grind
      have hf' : zfo (oD o) σ0 (zst σ (o + 1) i (c - (a i).2)) := hf.st (Or.inl rfl)
      have a1 : (a i).1 ≠ 0 := by rw [← e3, e1]; exact c1
      by_cases c2 : loc a c i = 0
      · rw [if_pos c2]
        rw [show (0 : Int) = loc a c (i + 1) by rw [ec, c2]; split <;> rfl]
        exact pL_takeOverturned_10 hn a ha c hc σ0 d m (i + 1) _ (by omega) (by omega) hf' hl'
      · rw [if_neg c2, zckj (by omega) (by omega), zwp_let, pX_isPitch, zbi_some, zrd_st, if_pos (show o + 1 = o + 1 ∧ i = i from ⟨rfl, rfl⟩), hw, zw_b2]
        by_cases c3 : 0 ≤ c - (a i).2 ∧ c - (a i).2 ≤ 60
        · rw [if_pos c3, if_neg (by decide)]
          rw [show (1 : Int) = loc a c (i + 1) by rw [ec, if_pos (Or.inr c3)]; rcases loc_01 a c i with h | h; exact absurd h c2; exact h.symm]
          exact pL_takeOverturned_10 hn a ha c hc σ0 d m (i + 1) _ (by omega) (by omega) hf' hl'
        · rw [if_neg c3, if_pos rfl]
          rw [show (0 : Int) = loc a c (i + 1) by rw [ec, if_neg (by rintro (h | h); exact a1 h; exact c3 h)]]
          exact pL_takeOverturned_10 hn a ha c hc σ0 d m (i + 1) _ (by omega) (by omega) hf' hl'
theorem qL_takeOverturned {o o1 : Nat} (hn : zli 32 o) (hn1 : zli 32 o1) (hd : o + 1 ≠ o1 + 2) (σ : Zm) (ha : lsm (ln 32 σ o1)) (c : Int) (hc : 0 ≤ c ∧ c ≤ 120) : zwp (fL_takeOverturned σ o o1 c) (fun r σ' => zfo (oD o) σ σ' ∧ ln 32 σ' o = lov (ln 32 σ o1) c ∧ r = loc (ln 32 σ o1) c 32) := by
  unfold fL_takeOverturned
  rw [zwp_bv]
  refine zwp_mono (qL_take hn hn1 hd σ) (fun r σ1 ⟨hf, hl, _⟩ => ?_)
  refine pL_takeOverturned_10 hn _ ha c hc σ 32 5000 0 σ1 (by omega) (by omega) hf ?_
  rw [hl]
  funext t
  rw [if_neg (by omega)]

def lfm1 (a : Ln) (d : Nat) (h sg : Int) (B : Nat) : Ln := fun t => if d ≤ t ∧ t < d + 1 * B ∧ (a ((t - d) / 1)).1 ≠ 0 then ((if (t - d) % 1 = 0 then (a ((t - d) / 1)).1 else 2), h + sg * (a ((t - d) / 1)).2) else (0, 0)
theorem pL_takeForm_58_1 {o o1 : Nat} (hn : zli 32 o) (hn1 : zli 12 o1) (σ0 : Zm) (hd0 : ¬ oD o (o1 + 1)) (hd1 : ¬ oD o (o1 + 2)) (ha : lsm (ln 12 σ0 o1)) (dl : Nat) (hdl : dl ≤ 8) (h sg : Int) (hh : 0 ≤ h ∧ h ≤ 100) (hsg : sg = 1 ∨ sg = -1) : ∀ (d m B : Nat) (σ : Zm), d < m → B + d = 12 → zfo (oD o) σ0 σ → ln 32 σ o = lfm1 (ln 12 σ0 o1) dl h sg B → zwp (fL_takeForm_58 m o o1 h (dl : Int) sg 1 (B : Int) σ) (fun _ σ' => zfo (oD o) σ0 σ' ∧ ln 32 σ' o = lfm1 (ln 12 σ0 o1) dl h sg 12)
  | 0, m + 1, B, σ, _, hi, hf, hl => by
    have h2 := hn1.2
    rw [fL_takeForm_58]
    simp only [zwp_let]
    rw [if_pos (by omega), zwp_some]
    have e : B = 12 := by omega
    subst e
    exact ⟨hf, hl⟩
  | d + 1, m + 1, B, σ, hd, hi, hf, hl => by
    have h1 := hn.1
    have h2 := hn.2
    have h3 := hn1.1
    have h4 := hn1.2
    have e1 : (ln 12 σ0 o1 B).1 = zrd σ (o1 + 2) B := by rw [hf.rd hd1]; exact ln_1 (by omega)
    have e2 : zrd σ (o1 + 2) B ≠ 0 → (ln 12 σ0 o1 B).2 = zrd σ (o1 + 1) B := by rw [hf.rd hd1, hf.rd hd0]; exact ln_2 (by omega)
    have hai := ha B
    rw [fL_takeForm_58]
    simp only [zwp_let]
    rw [if_neg (by omega), zckj (by omega) (by omega)]
    rw [show zw ((B : Int) + 1) = ((B + 1 : Nat) : Int) from zwj (by omega) (by omega), Int.toNat_natCast, zwp_let]
    by_cases c1 : zrd σ (o1 + 2) B = 0
    · rw [if_neg (by simpa using c1)]
      refine pL_takeForm_58_1 hn hn1 σ0 hd0 hd1 ha dl hdl h sg hh hsg d m (B + 1) σ (by omega) (by omega) hf ?_
      rw [hl]
      funext t
      unfold lfm1
      have : (ln 12 σ0 o1 B).1 = 0 := by rw [e1, c1]
      grind
    · rw [if_pos c1]
      have hw : zw (h + sg * (ln 12 σ0 o1 B).2) = h + sg * (ln 12 σ0 o1 B).2 := by
        rcases hsg with h5 | h5 <;> subst h5 <;> exact zwj (by omega) (by omega)
      have hd2 := fun q => hd0 (Or.inl q)
      have hd3 := fun q => hd0 (Or.inr q)
      have hd4 := fun q => hd1 (Or.inl q)
      have hd5 := fun q => hd1 (Or.inr q)
      rw [fL_takeForm_84]
      simp only [zwp_let]
      rw [if_neg (by decide)]
      rw [show zw (((dl : Int) + 1 * (B : Int)) + 0) = ((dl + 1 * B + 0 : Nat) : Int) from zwj (by omega) (by omega), zwp_let]
      rw [h2, show zw (((32 : Nat) : Int) - 1) = 31 from by decide, pwithin_t (by omega), if_neg (by decide)]
      rw [if_neg (by decide), zckj (by omega) (by omega), zwp_let, zckj (by omega) (by omega), zwp_let, Int.toNat_natCast, Int.toNat_natCast]
      unfold fL_takeForm_143
      rw [zckj (by omega) (by omega), zwp_let, zckj (by omega) (by omega), zwp_let, Int.toNat_natCast, Int.toNat_natCast]
      simp (disch := omega) only [zrd_st, ifn, show zw ((0 : Int) + 1) = 1 by decide]
      rw [fL_takeForm_84]
      simp only [zwp_let]
      rw [if_pos (by decide)]
      rw [show zw ((B : Int) + 1) = ((B + 1 : Nat) : Int) from zwj (by omega) (by omega)]
      rw [← e2 c1, ← e1]
      refine pL_takeForm_58_1 hn hn1 σ0 hd0 hd1 ha dl hdl h sg hh hsg d m (B + 1) _ (by omega) (by omega) ?_ ?_
      · exact (hf.st (Or.inr rfl)).st (Or.inl rfl)
      · funext t
        have e5 := congrFun hl t
        obtain ⟨a, ha'⟩ : ∃ a, ln 12 σ0 o1 = a := ⟨_, rfl⟩
        have hk : (ln 12 σ0 o1 B).1 ≠ 0 := by rw [e1]; exact c1
        have hk2 : zw (ln 12 σ0 o1 B).1 = (ln 12 σ0 o1 B).1 := by rw [e1]; exact zw_rd _ _ _
        rw [ha'] at e5 hk hk2 hw hai ⊢
        unfold ln at e5 ⊢
        clear hn hn1 h1 h2 h3 h4 e1 e2 hl hf ha hd0 hd1 hh hsg hai ha'
        unfold lfm1 at e5 ⊢
        simp only [zrd_st, hw, show zw 2 = 2 by decide]
        grind

def lfm2 (a : Ln) (d : Nat) (h sg : Int) (B : Nat) : Ln := fun t => if d ≤ t ∧ t < d + 2 * B ∧ (a ((t - d) / 2)).1 ≠ 0 then ((if (t - d) % 2 = 0 then (a ((t - d) / 2)).1 else 2), h + sg * (a ((t - d) / 2)).2) else (0, 0)
theorem pL_takeForm_58_2 {o o1 : Nat} (hn : zli 32 o) (hn1 : zli 12 o1) (σ0 : Zm) (hd0 : ¬ oD o (o1 + 1)) (hd1 : ¬ oD o (o1 + 2)) (ha : lsm (ln 12 σ0 o1)) (dl : Nat) (hdl : dl ≤ 8) (h sg : Int) (hh : 0 ≤ h ∧ h ≤ 100) (hsg : sg = 1 ∨ sg = -1) : ∀ (d m B : Nat) (σ : Zm), d < m → B + d = 12 → zfo (oD o) σ0 σ → ln 32 σ o = lfm2 (ln 12 σ0 o1) dl h sg B → zwp (fL_takeForm_58 m o o1 h (dl : Int) sg 2 (B : Int) σ) (fun _ σ' => zfo (oD o) σ0 σ' ∧ ln 32 σ' o = lfm2 (ln 12 σ0 o1) dl h sg 12)
  | 0, m + 1, B, σ, _, hi, hf, hl => by
    have h2 := hn1.2
    rw [fL_takeForm_58]
    simp only [zwp_let]
    rw [if_pos (by omega), zwp_some]
    have e : B = 12 := by omega
    subst e
    exact ⟨hf, hl⟩
  | d + 1, m + 1, B, σ, hd, hi, hf, hl => by
    have h1 := hn.1
    have h2 := hn.2
    have h3 := hn1.1
    have h4 := hn1.2
    have e1 : (ln 12 σ0 o1 B).1 = zrd σ (o1 + 2) B := by rw [hf.rd hd1]; exact ln_1 (by omega)
    have e2 : zrd σ (o1 + 2) B ≠ 0 → (ln 12 σ0 o1 B).2 = zrd σ (o1 + 1) B := by rw [hf.rd hd1, hf.rd hd0]; exact ln_2 (by omega)
    have hai := ha B
    rw [fL_takeForm_58]
    simp only [zwp_let]
    rw [if_neg (by omega), zckj (by omega) (by omega)]
    rw [show zw ((B : Int) + 1) = ((B + 1 : Nat) : Int) from zwj (by omega) (by omega), Int.toNat_natCast, zwp_let]
    by_cases c1 : zrd σ (o1 + 2) B = 0
    · rw [if_neg (by simpa using c1)]
      refine pL_takeForm_58_2 hn hn1 σ0 hd0 hd1 ha dl hdl h sg hh hsg d m (B + 1) σ (by omega) (by omega) hf ?_
      rw [hl]
      funext t
      unfold lfm2
      have : (ln 12 σ0 o1 B).1 = 0 := by rw [e1, c1]
      grind
    · rw [if_pos c1]
      have hw : zw (h + sg * (ln 12 σ0 o1 B).2) = h + sg * (ln 12 σ0 o1 B).2 := by
        rcases hsg with h5 | h5 <;> subst h5 <;> exact zwj (by omega) (by omega)
      have hd2 := fun q => hd0 (Or.inl q)
      have hd3 := fun q => hd0 (Or.inr q)
      have hd4 := fun q => hd1 (Or.inl q)
      have hd5 := fun q => hd1 (Or.inr q)
      rw [fL_takeForm_84]
      simp only [zwp_let]
      rw [if_neg (by decide)]
      rw [show zw (((dl : Int) + 2 * (B : Int)) + 0) = ((dl + 2 * B + 0 : Nat) : Int) from zwj (by omega) (by omega), zwp_let]
      rw [h2, show zw (((32 : Nat) : Int) - 1) = 31 from by decide, pwithin_t (by omega), if_neg (by decide)]
      rw [if_neg (by decide), zckj (by omega) (by omega), zwp_let, zckj (by omega) (by omega), zwp_let, Int.toNat_natCast, Int.toNat_natCast]
      unfold fL_takeForm_143
      rw [zckj (by omega) (by omega), zwp_let, zckj (by omega) (by omega), zwp_let, Int.toNat_natCast, Int.toNat_natCast]
      simp (disch := omega) only [zrd_st, ifn, show zw ((0 : Int) + 1) = 1 by decide]
      rw [fL_takeForm_84]
      simp only [zwp_let]
      rw [if_neg (by decide)]
      rw [show zw (((dl : Int) + 2 * (B : Int)) + 1) = ((dl + 2 * B + 1 : Nat) : Int) from zwj (by omega) (by omega), zwp_let]
      rw [h2, show zw (((32 : Nat) : Int) - 1) = 31 from by decide, pwithin_t (by omega), if_neg (by decide)]
      rw [if_pos (by decide), zckj (by omega) (by omega), zwp_let, Int.toNat_natCast]
      unfold fL_takeForm_143
      rw [zckj (by omega) (by omega), zwp_let, zckj (by omega) (by omega), zwp_let, Int.toNat_natCast, Int.toNat_natCast]
      simp (disch := omega) only [zrd_st, ifn, show zw ((1 : Int) + 1) = 2 by decide]
      rw [fL_takeForm_84]
      simp only [zwp_let]
      rw [if_pos (by decide)]
      rw [show zw ((B : Int) + 1) = ((B + 1 : Nat) : Int) from zwj (by omega) (by omega)]
      rw [← e2 c1, ← e1]
      refine pL_takeForm_58_2 hn hn1 σ0 hd0 hd1 ha dl hdl h sg hh hsg d m (B + 1) _ (by omega) (by omega) ?_ ?_
      · exact (((hf.st (Or.inr rfl)).st (Or.inl rfl)).st (Or.inr rfl)).st (Or.inl rfl)
      · funext t
        have e5 := congrFun hl t
        obtain ⟨a, ha'⟩ : ∃ a, ln 12 σ0 o1 = a := ⟨_, rfl⟩
        have hk : (ln 12 σ0 o1 B).1 ≠ 0 := by rw [e1]; exact c1
        have hk2 : zw (ln 12 σ0 o1 B).1 = (ln 12 σ0 o1 B).1 := by rw [e1]; exact zw_rd _ _ _
        rw [ha'] at e5 hk hk2 hw hai ⊢
        unfold ln at e5 ⊢
        clear hn hn1 h1 h2 h3 h4 e1 e2 hl hf ha hd0 hd1 hh hsg hai ha'
        unfold lfm2 at e5 ⊢
        simp only [zrd_st, hw, show zw 2 = 2 by decide]
        grind
theorem zfl_st (σ : Zm) (o i : Nat) (v : Int) : zst (zfl σ o i v) o i v = zfl σ o (i + 1) v := by
  refine Prod.ext ?_ rfl
  funext p j
  show (if p = o ∧ j = i then zI v else if p = o ∧ j < i then zI v else σ.1 p j) = if p = o ∧ j < i + 1 then zI v else σ.1 p j
  grind
theorem pJ7_fill_5 (o : Nat) (v : Int) (σ : Zm) : ∀ (d m i : Nat), d < m → i + d = zLN o → fJ7_fill_53178_5 m o v (i : Int) ((zLN o : Nat) : Int) (zfl σ o i v) = some (0, zfl σ o (zLN o) v)
  | 0, m + 1, i, _, hi => by
    rw [fJ7_fill_53178_5]
    dsimp only [zlet]
    rw [if_pos (by omega), show i = zLN o by omega]
  | d + 1, m + 1, i, hd, hi => by
    have hl := pLN_le o
    rw [fJ7_fill_53178_5]
    dsimp only [zlet]
    rw [if_neg (by omega), zckj (by omega) (by omega), Int.toNat_natCast, zfl_st, show zw ((i : Int) + 1) = ((i + 1 : Nat) : Int) from zwj (by omega) (by omega)]
    exact pJ7_fill_5 o v σ d m (i + 1) (by omega) (by omega)
theorem zfl_0 (σ : Zm) (o : Nat) (v : Int) : zfl σ o 0 v = σ := by
  refine Prod.ext ?_ rfl
  funext p j
  show (if p = o ∧ j < 0 then zI v else σ.1 p j) = σ.1 p j
  rw [if_neg (by omega)]
theorem qJ7_fill (σ : Zm) (o : Nat) (v : Int) (h : zLN o < 5000) : fJ7_fill_53178 σ o v = some (0, zfl σ o (zLN o) v) := by
  unfold fJ7_fill_53178
  have := pJ7_fill_5 o v σ (zLN o) 5000 0 h (by omega)
  rw [zfl_0] at this
  exact this
theorem zfo.fl {D : Nat → Prop} {σ σ1 : Zm} {o n : Nat} {v : Int} (h : zfo D σ σ1) (ho : D o) : zfo D σ (zfl σ1 o n v) := by
  refine h.tr (fun p q => ⟨?_, rfl⟩)
  funext j
  show (if p = o ∧ j < n then zI v else σ1.1 p j) = σ1.1 p j
  rw [if_neg (fun z => q (by rw [z.1]; exact ho))]
def lfo (a : Ln) (f : Nat) : Ln := if f / 450 = 0 then lfm1 a (f / 25 % 9) (18 + (f % 25 : Nat)) (if f / 225 % 2 = 1 then -1 else 1) 12 else lfm2 a (f / 25 % 9) (18 + (f % 25 : Nat)) (if f / 225 % 2 = 1 then -1 else 1) 12
theorem itd (a b : Nat) : Int.tdiv (a : Int) (b : Int) = ((a / b : Nat) : Int) := rfl
theorem itm (a b : Nat) : Int.tmod (a : Int) (b : Int) = ((a % b : Nat) : Int) := rfl
theorem qL_takeForm {o o1 : Nat} (hn : zli 32 o) (hn1 : zli 12 o1) (hd0 : ¬ oD o (o1 + 1)) (hd1 : ¬ oD o (o1 + 2)) (σ : Zm) (ha : lsm (ln 12 σ o1)) (f : Nat) (hf : f < 900) : zwp (fL_takeForm σ o o1 (f : Int)) (fun _ σ' => zfo (oD o) σ σ' ∧ ln 32 σ' o = lfo (ln 12 σ o1) f) := by
  have h2 := hn.2
  have e1 : zw ((30 + Int.tmod (f : Int) 25) - 12) = 18 + ((f % 25 : Nat) : Int) := by
    rw [show Int.tmod (f : Int) 25 = ((f % 25 : Nat) : Int) from rfl, zwj (by omega) (by omega)]; omega
  have e2 : zw (Int.tmod (zw (Int.tdiv (f : Int) 25)) 9) = ((f / 25 % 9 : Nat) : Int) := by
    rw [show Int.tdiv (f : Int) 25 = ((f / 25 : Nat) : Int) from rfl, zwj (a := ((f / 25 : Nat) : Int)) (by omega) (by omega), show Int.tmod ((f / 25 : Nat) : Int) 9 = ((f / 25 % 9 : Nat) : Int) from rfl, zwj (by omega) (by omega)]
  have e3 : zw (Int.tmod (zw (Int.tdiv (f : Int) 225)) 2) = ((f / 225 % 2 : Nat) : Int) := by
    rw [show Int.tdiv (f : Int) 225 = ((f / 225 : Nat) : Int) from rfl, zwj (a := ((f / 225 : Nat) : Int)) (by omega) (by omega), show Int.tmod ((f / 225 : Nat) : Int) 2 = ((f / 225 % 2 : Nat) : Int) from rfl, zwj (by omega) (by omega)]
  have e4 : zw (1 + Int.tdiv (f : Int) 450) = 1 + ((f / 450 : Nat) : Int) := by
    rw [show Int.tdiv (f : Int) 450 = ((f / 450 : Nat) : Int) from rfl, zwj (by omega) (by omega)]
  have hx : ∀ sg : Int, (sg = if f / 225 % 2 = 1 then -1 else 1) → zwp (fL_takeForm_38 o o1 (f : Int) (18 + ((f % 25 : Nat) : Int)) ((f / 25 % 9 : Nat) : Int) sg σ) (fun _ σ' => zfo (oD o) σ σ' ∧ ln 32 σ' o = lfo (ln 12 σ o1) f) := by
    intro sg hs
    unfold fL_takeForm_38
    rw [zwp_let, e4, zbv_eq (qJ7_fill σ (o + 2) 0 (by omega)), h2]
    have hsg : sg = 1 ∨ sg = -1 := by rw [hs]; split; exact Or.inr rfl; exact Or.inl rfl
    have hf0 : zfo (oD o) σ (zfl σ (o + 2) 32 0) := zfo.rf.fl (Or.inr rfl)
    have ha' : ln 12 (zfl σ (o + 2) 32 0) o1 = ln 12 σ o1 := ln_fo hf0 hd0 hd1
    have hz : ∀ (B : Ln), (∀ t, B t = (0, 0)) → ln 32 (zfl σ (o + 2) 32 0) o = B := by
      intro B hB
      funext t
      rw [hB]
      unfold ln
      rw [zrd_fl]
      rw [if_neg]
      rintro ⟨q1, q2⟩
      rw [if_pos ⟨rfl, q1⟩] at q2
      exact q2 (by decide)
    unfold lfo
    rw [← hs]
    by_cases c : f / 450 = 0
    · rw [if_pos c, c, show (1 + ((0 : Nat) : Int)) = 1 by rfl]
      refine zwp_mono (pL_takeForm_58_1 hn hn1 (zfl σ (o + 2) 32 0) hd0 hd1 (by rw [ha']; exact ha) (f / 25 % 9) (by omega) (18 + ((f % 25 : Nat) : Int)) sg (by omega) hsg 12 5000 0 _ (by omega) (by omega) zfo.rf (hz _ ?_)) ?_
      · intro t
        unfold lfm1
        rw [if_neg (by omega)]
      · rintro r σ' ⟨q1, q2⟩
        rw [ha'] at q2
        exact ⟨hf0.tr q1, q2⟩
    · have c1 : f / 450 = 1 := by omega
      rw [if_neg c, c1, show (1 + ((1 : Nat) : Int)) = 2 by rfl]
      refine zwp_mono (pL_takeForm_58_2 hn hn1 (zfl σ (o + 2) 32 0) hd0 hd1 (by rw [ha']; exact ha) (f / 25 % 9) (by omega) (18 + ((f % 25 : Nat) : Int)) sg (by omega) hsg 12 5000 0 _ (by omega) (by omega) zfo.rf (hz _ ?_)) ?_
      · intro t
        unfold lfm2
        rw [if_neg (by omega)]
      · rintro r σ' ⟨q1, q2⟩
        rw [ha'] at q2
        exact ⟨hf0.tr q1, q2⟩
  unfold fL_takeForm
  rw [zwp_let, zwp_let, e1, e2, e3]
  by_cases c : f / 225 % 2 = 1
  · rw [if_neg (by omega)]
    exact hx (-1) (by rw [if_pos c])
  · rw [if_pos (by omega)]
    exact hx 1 (by rw [if_neg c])

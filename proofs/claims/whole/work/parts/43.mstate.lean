/-! MY OWN: the reference's numbers; pieces laid on the sheet; lengths -/
def ce (p : Int × Int) : Int := if p.1 = 0 then -1 else if p.1 = 1 then p.2 else p.2 + 100
def sc (p : Int × Int) : Int := if p.1 = 0 then -1000 else if p.1 = 1 then p.2 else p.2 + 100
def MSv (o : Nat) (σ : Zm) (V : Nat → Ln) : Prop := ∀ i t, i < 16 → t < 32 → zrd σ o (10 + 32 * i + t) = ce (V i t)
def MSu (o : Nat) (σ : Zm) (U : Nat → Ln) : Prop := ∀ s b, s < 6 → b < 12 → zrd σ o (530 + 12 * s + b) = sc (U s b)
def MSn (o : Nat) (σ : Zm) (N : Nat → Int) : Prop := (∀ k, k < 4 → zrd σ o k = N k) ∧ (∀ k, k < 4 → zrd σ o (610 + k) = N (10 + k)) ∧ (∀ k, k < 10 → zrd σ o (620 + 2 * k) = N (20 + k) ∧ zrd σ o (620 + 2 * k + 1) = N (30 + k)) ∧ (∀ k, k < 32 → zrd σ o (650 + k) = N (40 + k)) ∧ (∀ k, k < 6 → zrd σ o (690 + k) = N (80 + k))
def MS (o : Nat) (σ : Zm) (V U : Nat → Ln) (N : Nat → Int) : Prop := MSv o σ V ∧ MSu o σ U ∧ MSn o σ N
theorem MS_cg {o p : Nat} {σ σ1 : Zm} {V U : Nat → Ln} {N : Nat → Int} (h : MS o σ V U N) (he : ∀ k, k < 700 → zrd σ1 p k = zrd σ o k) : MS p σ1 V U N := by
  obtain ⟨h1, h2, h3, h4, h5, h6, h7⟩ := h
  refine ⟨fun i t hi ht => ?_, fun s b hs hb => ?_, fun k hk => ?_, fun k hk => ?_, fun k hk => ?_, fun k hk => ?_, fun k hk => ?_⟩
  · rw [he _ (by omega)]; exact h1 i t hi ht
  · rw [he _ (by omega)]; exact h2 s b hs hb
  · rw [he _ (by omega)]; exact h3 k hk
  · rw [he _ (by omega)]; exact h4 k hk
  · rw [he _ (by omega), he _ (by omega)]; exact h5 k hk
  · rw [he _ (by omega)]; exact h6 k hk
  · rw [he _ (by omega)]; exact h7 k hk
theorem MS_fo {D : Nat → Prop} {o : Nat} {σ σ1 : Zm} {V U : Nat → Ln} {N : Nat → Int} (h : MS o σ V U N) (hf : zfo D σ σ1) (hD : ¬ D o) : MS o σ1 V U N := MS_cg h (fun k _ => hf.rd hD k)
def vok (l h : Int) (n : Nat) (a : Ln) : Prop := ∀ t, (a t = (0, 0) ∨ (((a t).1 = 1 ∨ (a t).1 = 2) ∧ l ≤ (a t).2 ∧ (a t).2 ≤ h)) ∧ (n ≤ t → a t = (0, 0))
def WS (V U : Nat → Ln) (N : Nat → Int) : Prop := (∀ i, vok 0 60 32 (V i)) ∧ (∀ s, vok (-20) 20 12 (U s)) ∧ (1 ≤ N 0 ∧ N 0 ≤ 12) ∧ (0 ≤ N 1 ∧ N 1 ≤ 6) ∧ (0 ≤ N 2 ∧ N 2 ≤ 8) ∧ (0 ≤ N 3 ∧ N 3 ≤ 10) ∧ (∀ k, k < 4 → -1 ≤ N (10 + k) ∧ N (10 + k) ≤ 3) ∧ (∀ k : Nat, k < 10 → (k : Int) < N 3 → 1 ≤ N (20 + k) ∧ N (20 + k) ≤ 9999 ∧ 1 ≤ N (30 + k) ∧ N (30 + k) ≤ 9999) ∧ (∀ k, k < 32 → 0 ≤ N (40 + k) ∧ N (40 + k) ≤ 99) ∧ (∀ k, k < 6 → 0 ≤ N (80 + k) ∧ N (80 + k) ≤ 9)
theorem vok_sm {a : Ln} (h : vok 0 60 32 a) : lsm a := by
  intro t
  rcases (h t).1 with q | ⟨_, q⟩
  · rw [q]; simp
  · omega
theorem vok_60 {a : Ln} (h : vok 0 60 32 a) : ∀ t, 0 ≤ (a t).2 ∧ (a t).2 ≤ 60 := by
  intro t
  rcases (h t).1 with q | ⟨_, q⟩
  · rw [q]; simp
  · omega
theorem vok_20 {a : Ln} (h : vok (-20) 20 12 a) : l20 a := by
  intro t
  rcases (h t).1 with q | ⟨_, q⟩
  · rw [q]; simp
  · omega
theorem vok_ss {a : Ln} (h : vok (-20) 20 12 a) : lss a := by
  intro t
  have := vok_20 h t
  omega
theorem vok_k {l h : Int} {n : Nat} {a : Ln} (hv : vok l h n a) (t : Nat) : (a t).1 = 0 ∨ (a t).1 = 1 ∨ (a t).1 = 2 := by
  rcases (hv t).1 with q | ⟨q, _⟩
  · rw [q]; exact Or.inl rfl
  · exact Or.inr q
theorem vok_0 {l h : Int} {n : Nat} {a : Ln} (hv : vok l h n a) (t : Nat) (h0 : (a t).1 = 0) : a t = (0, 0) := by
  rcases (hv t).1 with q | ⟨q, _⟩
  · exact q
  · omega
theorem pM_layPiece_2 {V : Nat → Ln} (hV : ∀ i, vok 0 60 32 (V i)) (p : Nat) (hp : p < 4) (σ0 : Zm) (hm : MSv 274 σ0 V) : ∀ (d m j : Nat) (σ : Zm), d < m → j + d = 128 → zfo (fun q => q = 282 ∨ q = 283) σ0 σ → (∀ k, k < j → zrd σ 282 k = (if (V (4 * p + k / 32) (k % 32)).1 = 0 then -1000 else (V (4 * p + k / 32) (k % 32)).2) ∧ zrd σ 283 k = if (V (4 * p + k / 32) (k % 32)).1 = 1 then 1 else 0) → zwp (fM_layPiece_2 m (p : Int) (j : Int) σ) (fun _ σ' => zfo (fun q => q = 282 ∨ q = 283) σ0 σ' ∧ ∀ k, k < 128 → zrd σ' 282 k = (if (V (4 * p + k / 32) (k % 32)).1 = 0 then -1000 else (V (4 * p + k / 32) (k % 32)).2) ∧ zrd σ' 283 k = if (V (4 * p + k / 32) (k % 32)).1 = 1 then 1 else 0)
  | 0, m + 1, j, σ, _, hj, hf, hv => by
    rw [fM_layPiece_2]
    simp only [zwp_let]
    rw [if_pos (by omega), zwp_some]
    exact ⟨hf, fun k hk => hv k (by omega)⟩
  | d + 1, m + 1, j, σ, hm', hj, hf, hv => by
    have hcell := hm (4 * p + j / 32) (j % 32) (by omega) (by omega)
    rw [show 10 + 32 * (4 * p + j / 32) + j % 32 = 10 + 128 * p + j by omega] at hcell
    have hvk := hV (4 * p + j / 32) (j % 32)
    rw [fM_layPiece_2]
    simp only [zwp_let]
    rw [if_neg (by omega), show zw (10 + 128 * (p : Int) + (j : Int)) = ((10 + 128 * p + j : Nat) : Int) by rw [zwj (by omega) (by omega)]; omega, zckj (by omega) (by omega), zwp_let, Int.toNat_natCast, Int.toNat_natCast, hf.rd (by omega), hcell]
    generalize hw : V (4 * p + j / 32) (j % 32) = w at *
    have fin : ∀ (σ1 : Zm) (b : Int), zfo (fun q => q = 282 ∨ q = 283) σ0 σ1 → zw b = b → (b = if w.1 = 1 then 1 else 0) → (∀ k, zrd σ1 283 k = zrd σ 283 k) → (∀ k, zrd σ1 282 k = if k = j then (if w.1 = 0 then -1000 else w.2) else zrd σ 282 k) → zwp (zck (j : Int) 128 (zlet (zst σ1 283 j b) fun σ3 => fM_layPiece_2 m (p : Int) (zw ((j : Int) + 1)) σ3)) (fun _ σ' => zfo (fun q => q = 282 ∨ q = 283) σ0 σ' ∧ ∀ k, k < 128 → zrd σ' 282 k = (if (V (4 * p + k / 32) (k % 32)).1 = 0 then -1000 else (V (4 * p + k / 32) (k % 32)).2) ∧ zrd σ' 283 k = if (V (4 * p + k / 32) (k % 32)).1 = 1 then 1 else 0) := by
      intro σ1 b f1 hbw hb h3 h2
      rw [zckj (by omega) (by omega), show zw ((j : Int) + 1) = ((j + 1 : Nat) : Int) from zwj (by omega) (by omega)]
      refine zwp_st (fun σ2 f2 v2 => ?_)
      refine pM_layPiece_2 hV p hp σ0 hm d m (j + 1) σ2 (by omega) (by omega) (f1.tr (f2.mono (fun q z => Or.inr z))) (fun k hk => ?_)
      rw [f2.rd (oO_ne (by omega)), v2, h2, h3]
      by_cases c : k = j
      · subst c
        rw [if_pos rfl, if_pos rfl, hw, hbw, hb]
        exact ⟨rfl, rfl⟩
      · rw [if_neg c, if_neg c]
        exact hv k (by omega)
    have hz : ∀ v : Int, zwp (zck (j : Int) 128 (zlet (zst σ 282 j v) fun σ2 => fM_layPiece_45 (fun x1 x2 σ => fM_layPiece_2 m x1 x2 σ) (p : Int) (j : Int) (ce w) σ2)) (fun _ σ' => zfo (fun q => q = 282 ∨ q = 283) σ0 σ' ∧ ∀ k, k < 128 → zrd σ' 282 k = (if (V (4 * p + k / 32) (k % 32)).1 = 0 then -1000 else (V (4 * p + k / 32) (k % 32)).2) ∧ zrd σ' 283 k = if (V (4 * p + k / 32) (k % 32)).1 = 1 then 1 else 0) ∨ ¬ (zw v = if w.1 = 0 then -1000 else w.2) := by
      intro v
      by_cases hzv : zw v = if w.1 = 0 then -1000 else w.2
      · left
        rw [zckj (by omega) (by omega)]
        refine zwp_st (fun σ1 f1 v1 => ?_)
        have f1' : zfo (fun q => q = 282 ∨ q = 283) σ0 σ1 := hf.tr (f1.mono (fun q z => Or.inl z))
        have q3 : ∀ k, zrd σ1 283 k = zrd σ 283 k := fun k => f1.rd (oO_ne (by omega)) k
        have q2 : ∀ k, zrd σ1 282 k = if k = j then (if w.1 = 0 then -1000 else w.2) else zrd σ 282 k := fun k => by rw [v1, hzv]
        unfold fM_layPiece_45
        rcases hvk.1 with q | ⟨q | q, qr⟩
        · rw [q, if_pos (by decide), Int.toNat_natCast]
          exact fin σ1 0 f1' (by decide) (by rw [q]; decide) q3 q2
        · have e : ce w = w.2 := by unfold ce; rw [if_neg (by omega), if_pos q]
          rw [e, if_neg (by omega), if_neg (by omega), Int.toNat_natCast]
          exact fin σ1 1 f1' (by decide) (by rw [if_pos q]) q3 q2
        · have e : ce w = w.2 + 100 := by unfold ce; rw [if_neg (by omega), if_neg (by omega)]
          rw [e, if_neg (by omega), if_pos (by omega), Int.toNat_natCast]
          exact fin σ1 0 f1' (by decide) (by rw [if_neg (by omega)]) q3 q2
      · exact Or.inr hzv
    rcases hvk.1 with q | ⟨q | q, qr⟩
    · have e : ce w = -1 := by rw [q]; rfl
      have := hz (-1000)
      rw [e] at this ⊢
      rw [if_neg (by decide)]
      rcases this with z | z
      · exact z
      · exact absurd (by rw [q]; decide) z
    · have e : ce w = w.2 := by unfold ce; rw [if_neg (by omega), if_pos q]
      have := hz (Int.tmod w.2 100)
      rw [e] at this ⊢
      rw [if_pos (by omega)]
      rcases this with z | z
      · exact z
      · refine absurd ?_ z
        rw [if_neg (by omega), Int.tmod_eq_of_lt (by omega) (by omega), zwj (by omega) (by omega)]
    · have e : ce w = w.2 + 100 := by unfold ce; rw [if_neg (by omega), if_neg (by omega)]
      have := hz (Int.tmod (w.2 + 100) 100)
      rw [e] at this ⊢
      rw [if_pos (by omega)]
      rcases this with z | z
      · exact z
      · refine absurd ?_ z
        have : Int.tmod (w.2 + 100) 100 = w.2 := by
          rw [Int.tmod_eq_emod_of_nonneg (by omega)]
          omega
        rw [if_neg (by omega), this, zwj (by omega) (by omega)]
theorem qM_layPiece {V : Nat → Ln} (hV : ∀ i, vok 0 60 32 (V i)) (p : Nat) (hp : p < 4) (σ : Zm) (hm : MSv 274 σ V) : zwp (fM_layPiece σ (p : Int)) (fun _ σ' => zfo (fun q => q = 282 ∨ q = 283) σ σ' ∧ MV (fun v => V (4 * p + v)) σ') := by
  unfold fM_layPiece
  refine zwp_mono (pM_layPiece_2 hV p hp σ hm 128 5000 0 σ (by omega) (by omega) zfo.rf (fun k hk => by omega)) (fun r σ' ⟨f, h⟩ => ⟨f, fun j hj => ?_, fun v hv => ?_⟩)
  · obtain ⟨h1, h2⟩ := h j hj
    rw [h1, h2]
    have hvk := hV (4 * p + j / 32) (j % 32)
    constructor
    · split
      · exact Or.inr rfl
      · exact Or.inl rfl
    · intro q
      rcases hvk.1 with e | ⟨e, er⟩
      · rw [e]; decide
      · rw [if_neg (by omega)] at q; omega
  · funext t
    show ms σ' v t = V (4 * p + v) t
    unfold ms
    have hvt := hV (4 * p + v) t
    by_cases c : t < 32
    · obtain ⟨h1, h2⟩ := h (32 * v + t) (by omega)
      rw [show (32 * v + t) / 32 = v by omega, show (32 * v + t) % 32 = t by omega] at h1 h2
      rw [h1, h2]
      generalize V (4 * p + v) t = w at *
      rcases hvt.1 with e | ⟨e, er⟩
      · rw [e, if_neg (fun z => z.2 rfl)]
      · rw [if_pos ⟨c, by rw [if_neg (by omega)]; omega⟩, if_neg (show ¬ w.1 = 0 by omega)]
        refine Prod.ext ?_ rfl
        show (if (if w.1 = 1 then (1 : Int) else 0) ≠ 0 then (1 : Int) else 2) = w.1
        rcases e with e | e
        · rw [e]; rfl
        · rw [e]; rfl
    · rw [if_neg (fun z => c z.1), hvt.2 (by omega)]
theorem pM_lengthOf_12 {V : Nat → Ln} (hV : ∀ i, vok 0 60 32 (V i)) (p v : Nat) (hp : p < 4) (hv : v < 4) (σ : Zm) (hm : MSv 274 σ V) (n : Nat) (hn : n ≤ 32) (P : Int → Zm → Prop) (K : Int → Int → Int → Zm → Zr) (hK : zwp (K (p : Int) ((max n (lbt (V (4 * p + v))) : Nat) : Int) (v : Int) σ) P) : ∀ (d m t : Nat), d < m → t + d = 32 → zwp (fM_lengthOf_12 m (p : Int) ((max n (pbt (fun t => (V (4 * p + v) t).1) t) : Nat) : Int) (v : Int) (t : Int) σ K) P
  | 0, m + 1, t, _, ht => by
    rw [fM_lengthOf_12]
    simp only [zwp_let]
    have : t = 32 := by omega
    subst this
    rw [if_pos (by omega)]
    exact hK
  | d + 1, m + 1, t, hm', ht => by
    have hc := hm (4 * p + v) t (by omega) (by omega)
    have hl := pbt_le (fun t => (V (4 * p + v) t).1) t
    have hst : pbt (fun t => (V (4 * p + v) t).1) (t + 1) = if (V (4 * p + v) t).1 = 0 then pbt (fun t => (V (4 * p + v) t).1) t else t + 1 := rfl
    have ih := pM_lengthOf_12 hV p v hp hv σ hm n hn P K hK d m (t + 1) (by omega) (by omega)
    have ez : zw ((t : Int) + 1) = ((t + 1 : Nat) : Int) := zwj (by omega) (by omega)
    rw [fM_lengthOf_12]
    simp only [zwp_let]
    unfold fM_spot
    rw [if_neg (by omega), zwp_bi, zwp_some, show zw (10 + 128 * (p : Int) + 32 * (v : Int) + (t : Int)) = ((10 + 32 * (4 * p + v) + t : Nat) : Int) by rw [zwj (by omega) (by omega)]; omega, zckj (by omega) (by omega), zwp_let, Int.toNat_natCast, hc, ez]
    have hvk := hV (4 * p + v) t
    by_cases c : (V (4 * p + v) t).1 = 0
    · have e : ce (V (4 * p + v) t) = -1 := by unfold ce; rw [if_pos c]
      rw [e, if_pos (by decide)]
      rw [hst, if_pos c] at ih
      exact ih
    · have e : 0 ≤ ce (V (4 * p + v) t) := by
        unfold ce
        rcases hvk.1 with q | ⟨q, qr⟩
        · rw [q] at c; exact absurd rfl c
        · split
          · omega
          · split <;> omega
      rw [if_neg (by omega)]
      rw [hst, if_neg c] at ih
      by_cases c2 : t < max n (pbt (fun t => (V (4 * p + v) t).1) t)
      · rw [if_pos (by omega)]
        rw [show max n (t + 1) = max n (pbt (fun t => (V (4 * p + v) t).1) t) by omega] at ih
        exact ih
      · rw [if_neg (by omega), zwp_let]
        rw [show max n (t + 1) = t + 1 by omega] at ih
        exact ih
theorem qM_lengthOf {V : Nat → Ln} (hV : ∀ i, vok 0 60 32 (V i)) (p : Nat) (hp : p < 4) (σ : Zm) (hm : MSv 274 σ V) : fM_lengthOf σ (p : Int) = some ((plen V p : Int), σ) := by
  have key : zwp (fM_lengthOf σ (p : Int)) (fun r σ' => (r, σ') = ((plen V p : Int), σ)) := by
    have hle : ∀ i, lbt (V i) ≤ 32 := fun i => pbt_le _ _
    have q0 := hle (4 * p + 0)
    have q1 := hle (4 * p + 1)
    have q2 := hle (4 * p + 2)
    have q3 := hle (4 * p + 3)
    unfold fM_lengthOf
    rw [fM_lengthOf_4]
    simp only [zwp_let]
    rw [if_neg (by decide)]
    refine pM_lengthOf_12 hV p 0 hp (by omega) σ hm 0 (by omega) _ _ ?_ 32 5000 0 (by omega) (by omega)
    rw [show zw (((0 : Nat) : Int) + 1) = 1 by decide, fM_lengthOf_4]
    simp only [zwp_let]
    rw [if_neg (by decide)]
    have s1 := pM_lengthOf_12 hV p 1 hp (by omega) σ hm (max 0 (lbt (V (4 * p + 0)))) (by omega)
    have e0 : ∀ n : Nat, ∀ i, max n (pbt (fun t => (V i t).1) 0) = n := fun n i => by show max n 0 = n; omega
    have s1' := fun P K hK => s1 P K hK 32 5000 0 (by omega) (by omega)
    rw [e0] at s1'
    refine s1' _ _ ?_
    rw [show zw (((1 : Nat) : Int) + 1) = 2 by decide, fM_lengthOf_4]
    simp only [zwp_let]
    rw [if_neg (by decide)]
    have s2 := fun P K hK => pM_lengthOf_12 hV p 2 hp (by omega) σ hm (max (max 0 (lbt (V (4 * p + 0)))) (lbt (V (4 * p + 1)))) (by omega) P K hK 32 5000 0 (by omega) (by omega)
    rw [e0] at s2
    refine s2 _ _ ?_
    rw [show zw (((2 : Nat) : Int) + 1) = 3 by decide, fM_lengthOf_4]
    simp only [zwp_let]
    rw [if_neg (by decide)]
    have s3 := fun P K hK => pM_lengthOf_12 hV p 3 hp (by omega) σ hm (max (max (max 0 (lbt (V (4 * p + 0)))) (lbt (V (4 * p + 1)))) (lbt (V (4 * p + 2)))) (by omega) P K hK 32 5000 0 (by omega) (by omega)
    rw [e0] at s3
    refine s3 _ _ ?_
    rw [show zw (((3 : Nat) : Int) + 1) = 4 by decide, fM_lengthOf_4]
    simp only [zwp_let]
    rw [if_pos (by decide), zwp_some]
    unfold plen
    rw [Nat.add_zero, Nat.zero_max]
  obtain ⟨r, σ', h1, h2⟩ := key
  rw [h1, h2]
theorem pM_beatsOf_4 {U : Nat → Ln} (hU : ∀ s, vok (-20) 20 12 (U s)) (s : Nat) (hs : s < 6) (σ : Zm) (hm : MSu 274 σ U) : ∀ (d m b : Nat), d < m → b + d = 12 → fM_beatsOf_4 m (s : Int) ((pbt (fun t => (U s t).1) b : Nat) : Int) (b : Int) σ = some (((pbt (fun t => (U s t).1) 12 : Nat) : Int), σ)
  | 0, m + 1, b, _, hb => by
    rw [fM_beatsOf_4]
    simp only [zlet]
    have : b = 12 := by omega
    subst this
    rw [if_pos (by omega)]
  | d + 1, m + 1, b, hm', hb => by
    have hc := hm s b hs (by omega)
    have hst : pbt (fun t => (U s t).1) (b + 1) = if (U s b).1 = 0 then pbt (fun t => (U s t).1) b else b + 1 := rfl
    have ih := pM_beatsOf_4 hU s hs σ hm d m (b + 1) (by omega) (by omega)
    have ez : zw ((b : Int) + 1) = ((b + 1 : Nat) : Int) := zwj (by omega) (by omega)
    rw [fM_beatsOf_4]
    simp only [zlet]
    rw [if_neg (by omega), show zw (530 + 12 * (s : Int) + (b : Int)) = ((530 + 12 * s + b : Nat) : Int) by rw [zwj (by omega) (by omega)]; omega, zckj (by omega) (by omega), Int.toNat_natCast, hc, ez]
    have hvk := hU s b
    by_cases c : (U s b).1 = 0
    · have e : sc (U s b) = -1000 := by unfold sc; rw [if_pos c]
      rw [e, if_pos rfl]
      rw [hst, if_pos c] at ih
      exact ih
    · have e : sc (U s b) ≠ -1000 := by
        unfold sc
        rcases hvk.1 with q | ⟨q, qr⟩
        · rw [q] at c; exact absurd rfl c
        · rw [if_neg c]
          split <;> omega
      rw [if_neg e]
      rw [hst, if_neg c] at ih
      exact ih
theorem lbt_12 {a : Ln} (h : vok (-20) 20 12 a) : lbt a = pbt (fun t => (a t).1) 12 := by
  unfold lbt
  exact pbt_ext 32 (fun t ht => by rw [(h t).2 ht]) (by omega)
theorem qM_beatsOf {U : Nat → Ln} (hU : ∀ s, vok (-20) 20 12 (U s)) (s : Nat) (hs : s < 6) (σ : Zm) (hm : MSu 274 σ U) : fM_beatsOf σ (s : Int) = some ((lbt (U s) : Int), σ) := by
  unfold fM_beatsOf
  rw [lbt_12 (hU s)]
  exact pM_beatsOf_4 hU s hs σ hm 12 5000 0 (by omega) (by omega)
theorem qM_isIn (σ : Zm) (x a b : Int) : fM_isIn σ x a b = some (if a ≤ x ∧ x ≤ b then 1 else 0, σ) := by
  unfold fM_isIn
  by_cases h1 : x < a
  · rw [if_pos h1, if_neg (by omega)]
  · rw [if_neg h1]
    by_cases h2 : b < x
    · rw [if_pos h2, if_neg (by omega)]
    · rw [if_neg h2, if_pos (by omega)]
theorem mIn_t {σ : Zm} {x a b : Int} {F : Int → Zm → Zr} (h : a ≤ x ∧ x ≤ b) : zbi (fM_isIn σ x a b) F = F 1 σ := by rw [qM_isIn, if_pos h]; rfl
theorem mIn_f {σ : Zm} {x a b : Int} {F : Int → Zm → Zr} (h : ¬ (a ≤ x ∧ x ≤ b)) : zbi (fM_isIn σ x a b) F = F 0 σ := by rw [qM_isIn, if_neg h]; rfl

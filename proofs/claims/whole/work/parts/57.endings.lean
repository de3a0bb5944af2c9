/-! MY OWN: endings -/
/-- alike, from voice n on -/
def alk (V : Nat → Ln) (p q k n : Nat) : Prop := ∀ v, n ≤ v → v < 4 → ∀ t, t < k → V (4 * p + v) t = V (4 * q + v) t
theorem pX_isEnding_10 {w : Wd} {p q k : Nat} (hp : p < 4) (hq : q < 4) (hk : k ≤ 32) (σ : Zm) (h : XV 1 σ (wV w)) : ∀ (d m n : Nat), d < m → n + d = 4 → ∃ r : Int, fX_isEnding_10 m (p : Int) (q : Int) (k : Int) (n : Int) σ = some (r, σ) ∧ (r = 0 ∨ r = 1) ∧ (r = 1 ↔ alk (wV w) p q k n)
  | 0, m + 1, n, _, hn => by
    rw [fX_isEnding_10]
    dsimp only [zlet]
    rw [if_pos (by omega)]
    exact ⟨1, rfl, Or.inr rfl, fun _ v h1 h2 => by omega, fun _ => rfl⟩
  | d + 1, m + 1, n, hm, hn => by
    obtain ⟨a1, a2, a3, a4⟩ := xVo h (show 4 * p + n < 16 by omega)
    obtain ⟨b1, b2, b3, b4⟩ := xVo h (show 4 * q + n < 16 by omega)
    rw [fX_isEnding_10]
    dsimp only [zlet]
    rw [if_neg (by omega), zvo hp (by omega), zvo hq (by omega), zckj (by omega) (by omega), zckj (by omega) (by omega), Int.toNat_natCast, Int.toNat_natCast, a1, b1, zbi_eq (qL_isLike a2 b2 (by omega) σ a4 b4 k hk), zw_b2, a3, b3, show zw ((n : Int) + 1) = ((n + 1 : Nat) : Int) by rw [zwj (by omega) (by omega)]; omega]
    by_cases c : ∀ t, t < k → wV w (4 * p + n) t = wV w (4 * q + n) t
    · rw [if_pos c, if_pos (by decide)]
      obtain ⟨r, e, hr, hi⟩ := pX_isEnding_10 hp hq hk σ h d m (n + 1) (by omega) (by omega)
      refine ⟨r, e, hr, fun z => ?_, fun z => ?_⟩
      · intro v h1 h2 t ht
        by_cases f : v = n
        · subst f; exact c t ht
        · exact hi.1 z v (by omega) h2 t ht
      · exact hi.2 (fun v h1 h2 t ht => z v (by omega) h2 t ht)
    · rw [if_neg c, if_neg (by decide)]
      exact ⟨0, rfl, Or.inl rfl, fun z => absurd z (by decide), fun z => absurd (fun t ht => z n (by omega) (by omega) t ht) c⟩
theorem qX_isEnding {w : Wd} {p q k : Nat} (hp : p < 4) (hq : q < 4) (hk : k ≤ 32) (σ : Zm) (h : XV 1 σ (wV w)) {F : Int → Zm → Zr} {P : Int → Zm → Prop} (hy : p ≠ q ∧ alk (wV w) p q k 0 → zwp (F 1 σ) P) (hn : ¬ (p ≠ q ∧ alk (wV w) p q k 0) → zwp (F 0 σ) P) : zwp (zbi (fX_isEnding σ (p : Int) (q : Int) (k : Int)) F) P := by
  unfold fX_isEnding
  by_cases c : p = q
  · rw [ifnn (show (p : Int) = (q : Int) by omega)]
    exact hn (fun z => z.1 c)
  · rw [if_pos (show ¬ (p : Int) = (q : Int) by omega)]
    obtain ⟨r, e, hr, hi⟩ := pX_isEnding_10 hp hq hk σ h 4 5000 0 (by omega) (by omega)
    have e' : fX_isEnding_10 5000 (p : Int) (q : Int) (k : Int) 0 σ = some (r, σ) := e
    rw [zbi_eq e']
    rcases hr with h0 | h0 <;> subst h0
    · exact hn (fun z => absurd (hi.2 z.2) (by decide))
    · exact hy ⟨c, hi.1 rfl⟩
theorem ce_inj {a b : Ln} (ha : vok 0 60 32 a) (hb : vok 0 60 32 b) (t : Nat) : ce (a t) = ce (b t) ↔ a t = b t := by
  constructor
  · intro h
    have h1 := ha t
    have h2 := hb t
    unfold ce at h
    rcases h1.1 with e1 | ⟨e1, e2, e3⟩ <;> rcases h2.1 with f1 | ⟨f1, f2, f3⟩
    · rw [e1, f1]
    · rw [e1] at h
      simp only [if_true] at h
      rcases f1 with f1 | f1 <;> rw [f1] at h <;> simp only [if_neg (show ¬ (1 : Int) = 0 by decide), if_neg (show ¬ (2 : Int) = 0 by decide), if_neg (show ¬ (2 : Int) = 1 by decide), if_true] at h <;> omega
    · rw [f1] at h
      simp only [if_true] at h
      rcases e1 with e1 | e1 <;> rw [e1] at h <;> simp only [if_neg (show ¬ (1 : Int) = 0 by decide), if_neg (show ¬ (2 : Int) = 0 by decide), if_neg (show ¬ (2 : Int) = 1 by decide), if_true] at h <;> omega
    · rcases e1 with e1 | e1 <;> rcases f1 with f1 | f1 <;> rw [e1, f1] at h <;> simp only [if_neg (show ¬ (1 : Int) = 0 by decide), if_neg (show ¬ (2 : Int) = 0 by decide), if_neg (show ¬ (2 : Int) = 1 by decide), if_true] at h
      · exact Prod.ext (by rw [e1, f1]) h
      · omega
      · omega
      · exact Prod.ext (by rw [e1, f1]) (by omega)
  · intro h; rw [h]
theorem pM_isEnding_19 {w : Wd} (g : GI w) {p q k v : Nat} (hp : p < 4) (hq : q < 4) (hk : k ≤ 32) (hv : v < 4) (σ : Zm) (h : MSv 274 σ (wV w)) (R : Int → Prop) (K : Int → Int → Int → Int → Zm → Zr) (hy : (∀ t, t < k → wV w (4 * p + v) t = wV w (4 * q + v) t) → ∃ r, K (p : Int) (q : Int) (k : Int) (v : Int) σ = some (r, σ) ∧ R r) (hn : ¬ (∀ t, t < k → wV w (4 * p + v) t = wV w (4 * q + v) t) → R 0) : ∀ (d m t : Nat), d < m → t + d = k → (∀ u, u < t → wV w (4 * p + v) u = wV w (4 * q + v) u) → ∃ r, fM_isEnding_19 m (p : Int) (q : Int) (k : Int) (v : Int) (t : Int) σ K = some (r, σ) ∧ R r
  | 0, m + 1, t, _, ht, ha => by
    rw [fM_isEnding_19]
    dsimp only [zlet]
    rw [if_pos (by omega)]
    exact hy (fun u hu => ha u (by omega))
  | d + 1, m + 1, t, hm, ht, ha => by
    rw [fM_isEnding_19]
    dsimp only [zlet]
    have e1 := h (4 * p + v) t (by omega) (by omega)
    have e2 := h (4 * q + v) t (by omega) (by omega)
    have s1 : ∀ x : Nat, x < 4 → fM_spot σ (x : Int) (v : Int) (t : Int) = some (((10 + 32 * (4 * x + v) + t : Nat) : Int), σ) := by
      intro x hx
      unfold fM_spot
      refine congrArg some (Prod.ext ?_ rfl)
      show (_ : Int) = _
      omega
    rw [if_neg (by omega), zbi_eq (s1 q hq), zwj (a := ((10 + 32 * (4 * q + v) + t : Nat) : Int)) (by omega) (by omega), zckj (by omega) (by omega), zbi_eq (s1 p hp), zwj (a := ((10 + 32 * (4 * p + v) + t : Nat) : Int)) (by omega) (by omega), zckj (by omega) (by omega), Int.toNat_natCast, Int.toNat_natCast, e1, e2, show zw ((t : Int) + 1) = ((t + 1 : Nat) : Int) by rw [zwj (by omega) (by omega)]; omega]
    by_cases c : wV w (4 * p + v) t = wV w (4 * q + v) t
    · rw [if_pos (by rw [c])]
      refine pM_isEnding_19 g hp hq hk hv σ h R K hy hn d m (t + 1) (by omega) (by omega) (fun u hu => ?_)
      by_cases f : u = t
      · rw [f]; exact c
      · exact ha u (by omega)
    · rw [if_neg (fun z => c ((ce_inj (g.1.1 _) (g.1.1 _) t).1 z.symm))]
      exact ⟨0, rfl, hn (fun z => c (z t (by omega)))⟩
theorem pM_isEnding_10 {w : Wd} (g : GI w) {p q k : Nat} (hp : p < 4) (hq : q < 4) (hk : k ≤ 32) (σ : Zm) (h : MSv 274 σ (wV w)) : ∀ (d m n : Nat), d < m → n + d = 4 → ∃ r : Int, fM_isEnding_10 m (p : Int) (q : Int) (k : Int) (n : Int) σ = some (r, σ) ∧ (r = 0 ∨ r = 1) ∧ (r = 1 ↔ alk (wV w) p q k n)
  | 0, m + 1, n, _, hn => by
    rw [fM_isEnding_10]
    dsimp only [zlet]
    rw [if_pos (by omega)]
    exact ⟨1, rfl, Or.inr rfl, fun _ v h1 h2 => by omega, fun _ => rfl⟩
  | d + 1, m + 1, n, hm, hn => by
    rw [fM_isEnding_10]
    dsimp only [zlet]
    rw [if_neg (by omega)]
    refine pM_isEnding_19 g hp hq hk (show n < 4 by omega) σ h (fun r => (r = 0 ∨ r = 1) ∧ (r = 1 ↔ alk (wV w) p q k n)) _ (fun c => ?_) (fun c => ⟨Or.inl rfl, fun z => absurd z (by decide), fun z => absurd (fun t ht => z n (by omega) (by omega) t ht) c⟩) k 5000 0 (by omega) (by omega) (fun u hu => by omega)
    rw [show zw ((n : Int) + 1) = ((n + 1 : Nat) : Int) by rw [zwj (by omega) (by omega)]; omega]
    obtain ⟨r, e, hr, hi⟩ := pM_isEnding_10 g hp hq hk σ h d m (n + 1) (by omega) (by omega)
    refine ⟨r, e, hr, fun z => ?_, fun z => ?_⟩
    · intro v h1 h2 t ht
      by_cases f : v = n
      · subst f; exact c t ht
      · exact hi.1 z v (by omega) h2 t ht
    · exact hi.2 (fun v h1 h2 t ht => z v (by omega) h2 t ht)
theorem qM_isEnding {w : Wd} (g : GI w) {p q k : Nat} (hp : p < 4) (hq : q < 4) (hk : k ≤ 32) (σ : Zm) (h : MSv 274 σ (wV w)) {F : Int → Zm → Zr} {P : Int → Zm → Prop} (hy : p ≠ q ∧ alk (wV w) p q k 0 → zwp (F 1 σ) P) (hn : ¬ (p ≠ q ∧ alk (wV w) p q k 0) → zwp (F 0 σ) P) : zwp (zbi (fM_isEnding σ (p : Int) (q : Int) (k : Int)) F) P := by
  unfold fM_isEnding
  by_cases c : p = q
  · rw [ifnn (show (q : Int) = (p : Int) by omega)]
    exact hn (fun z => z.1 c)
  · rw [if_pos (show ¬ (q : Int) = (p : Int) by omega)]
    obtain ⟨r, e, hr, hi⟩ := pM_isEnding_10 g hp hq hk σ h 4 5000 0 (by omega) (by omega)
    have e' : fM_isEnding_10 5000 (p : Int) (q : Int) (k : Int) 0 σ = some (r, σ) := e
    rw [zbi_eq e']
    rcases hr with h0 | h0 <;> subst h0
    · exact hn (fun z => absurd (hi.2 z.2) (by decide))
    · exact hy ⟨c, hi.1 rfl⟩
/-- what an ending is worth -/
def wrt (w : Wd) (x set q k : Nat) : Int := lsum (abk (wT w x) (fun v => wV w (4 * q + v)) (wN w 0) (32 - k) k) + max 0 (stv (wV w) set q)
theorem lsA {w : Wd} {σ : Zm} (h : XI w σ) {x : Nat} (hx : x < 6) (hxn : (x : Int) < wN w 1) (q k : Nat) : 0 ≤ lsum (abk (wT w x) (fun v => wV w (4 * q + v)) (wN w 0) (32 - k) k) ∧ lsum (abk (wT w x) (fun v => wV w (4 * q + v)) (wN w 0) (32 - k) k) ≤ 3200000 := by
  have := abk_len (wTl h hx hxn) (fun v => wV w (4 * q + v)) (wN w 0) (32 - k) k
  omega
def oXw (q : Nat) : Prop := oJ 153 q ∨ oT 218 q ∨ oT 221 q
theorem oXw_sc {q : Nat} (h : oXw q) : scX q := by
  rcases h with h | h | h
  · exact oJ_sc h
  · exact oT_sc (Or.inl rfl) h
  · exact oT_sc (Or.inr rfl) h
theorem qX_worth {w : Wd} {σ : Zm} (g : GI w) (h : XI w σ) {x set q k : Nat} (hx : x < 6) (hxn : (x : Int) < wN w 1) (hs : set < 16) (hq : q < 4) (hk : k ≤ 32) {F : Int → Zm → Zr} {P : Int → Zm → Prop} (hF : ∀ σ', zfo oXw σ σ' → zwp (F (wrt w x set q k) σ') P) : zwp (zbi (fX_worth σ (x : Int) (set : Int) (q : Int) (k : Int)) F) P := by
  have hst := stv_bd (wV w) set q
  have hls := lsA h hx hxn q k
  unfold fX_worth
  rw [zwp_bi, zwp_let]
  refine xJudge g h hx hxn hq k hk (-1) rfl (fun σ1 f1 e4 hl => ?_)
  have hV1 : XV 1 σ1 (wV w) := XV_fo h.1.1 f1 (fun q a b => by unfold oJ; omega)
  refine xStrange g hV1 hs hq (fun σ2 f2 h2 e2 => ?_)
  rw [zwp_let, zbi_eq e2, zwj (a := stv (wV w) set q) (by omega) (by omega), zwp_let, zwp_some, f2.rd (by unfold oT; omega), hl.2.1, zwj (a := lsum _) (by omega) (by omega)]
  have e : zw (lsum (abk (wT w x) (fun v => wV w (4 * q + v)) (wN w 0) (32 - k) k) + max 0 (stv (wV w) set q)) = wrt w x set q k := zwj (by omega) (by omega)
  rw [e]
  refine hF σ2 ((f1.mono (fun q z => Or.inl z)).tr (f2.mono (fun q z => Or.inr z)))
theorem qM_worth {w : Wd} {σ : Zm} (g : GI w) {σx : Zm} (hX : XI w σx) (h : MI w σ) {x set q k : Nat} (hx : x < 6) (hxn : (x : Int) < wN w 1) (hs : set < 16) (hq : q < 4) (hk : k ≤ 32) {F : Int → Zm → Zr} {P : Int → Zm → Prop} (hF : ∀ σ', zfo scM σ σ' → (∀ k, k ≤ 25 → zrd σ' 273 k = zrd σ 273 k) → zwp (F (wrt w x set q k) σ') P) : zwp (zbi (fM_worthOf σ (x : Int) (set : Int) (q : Int) (k : Int)) F) P := by
  have hst := stv_bd (wV w) set q
  have hls := lsA hX hx hxn q k
  unfold fM_worthOf
  rw [zwp_bi, zwp_bi]
  refine zwp_mono (qM_strangeOf g hs hq σ h) (fun r σ1 ⟨f1, k1, h1, e1⟩ => ?_)
  rw [e1, zwj (a := stv (wV w) set q) (by omega) (by omega)]
  refine mJudge g h1 hx hxn hq k hk (-1) rfl (fun u σ2 f2 k2 _ _ e2 => ?_)
  rw [e2, zwj (a := lsum _) (by omega) (by omega)]
  have hf : zfo scM σ σ2 := (f1.mono (fun q z => oMS_sc z)).tr f2
  have hk2 : ∀ k, k ≤ 25 → zrd σ2 273 k = zrd σ 273 k := fun k hk => by rw [k2 k hk, k1 k (by omega)]
  by_cases c : 0 ≤ stv (wV w) set q
  · rw [if_pos c, zwp_some, show zw (lsum (abk (wT w x) (fun v => wV w (4 * q + v)) (wN w 0) (32 - k) k) + stv (wV w) set q) = wrt w x set q k by unfold wrt; rw [zwj (by omega) (by omega)]; omega]
    exact hF σ2 hf hk2
  · rw [if_neg c, zwp_some, show zw (lsum (abk (wT w x) (fun v => wV w (4 * q + v)) (wN w 0) (32 - k) k) + 0) = wrt w x set q k by unfold wrt; rw [zwj (by omega) (by omega)]; omega]
    exact hF σ2 hf hk2

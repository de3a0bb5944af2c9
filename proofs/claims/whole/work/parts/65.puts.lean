/-! MY OWN: note, subject -/
def wNewV (w : Wd) (V : Nat → Ln) : Wd := ((V, wU w, wN w), w.2)
def wNewU (w : Wd) (U : Nat → Ln) : Wd := ((wV w, U, wN w), w.2)
def dV (q : Nat) : Prop := 9 ≤ q ∧ q ≤ 56
def dU (q : Nat) : Prop := 57 ≤ q ∧ q ≤ 74
theorem Inv_V {w : Wd} {p : Tp} {σ σ1 σ2 : Zm} (g : GI w) (gp : GT p) (hX : XI w σ) (hM : MI w σ) (hXT : XT p σ) (hMP : MP p σ) {V : Nat → Ln} (hV : ∀ i, vok 0 60 32 (V i)) (f1 : zfo dV σ σ1) (hx : XV 1 σ1 V) (f2 : zfo (oO 274) σ1 σ2) (hm : MS 274 σ2 V (wU w) (wN w)) : Inv σ2 := by
  have f12 : zfo (fun q => dV q ∨ oO 274 q) σ σ2 := (f1.mono (fun q z => Or.inl z)).tr (f2.mono (fun q z => Or.inr z))
  have hU2 : XU 1 σ2 (wU w) := by
    intro s hs
    rw [ln_fo f12 (by unfold dV oO; omega) (by unfold dV oO; omega)]
    exact hX.1.2.1 s hs
  refine ⟨wNewV w V, p, ⟨⟨hV, g.1.2⟩, g.2.1, g.2.2.1, g.2.2.2⟩, gp, ⟨⟨XV_fo hx f2 (fun q a b => oO_ne (by omega)), hU2, XN_fo hX.1.2.2 f12 (fun q a b => by unfold dV oO; omega)⟩, XS_fo hX.2.1 f12 (fun q a b => by unfold dV oO; omega), fun i hi hn => TRc_fo f12 (fun j hj => by unfold dV oO; omega) (hX.2.2 i hi hn)⟩, ⟨hm, MS_fo hM.2.1 f12 (by unfold dV oO; omega), fun i hi hn => TRm_fo f12 (by unfold dV oO; omega) (hM.2.2 i hi hn)⟩, XT_fo hXT f12 (by unfold dV oO; omega) (by unfold dV oO; omega) (by unfold dV oO; omega), MP_fo hMP f12 (fun k _ _ => f12.rd (by unfold dV oO; omega) k) (by unfold dV oO; omega)⟩
theorem Inv_U {w : Wd} {p : Tp} {σ σ1 σ2 : Zm} (g : GI w) (gp : GT p) (hX : XI w σ) (hM : MI w σ) (hXT : XT p σ) (hMP : MP p σ) {U : Nat → Ln} (hU : ∀ i, vok (-20) 20 12 (U i)) (f1 : zfo dU σ σ1) (hx : XU 1 σ1 U) (f2 : zfo (oO 274) σ1 σ2) (hm : MS 274 σ2 (wV w) U (wN w)) : Inv σ2 := by
  have f12 : zfo (fun q => dU q ∨ oO 274 q) σ σ2 := (f1.mono (fun q z => Or.inl z)).tr (f2.mono (fun q z => Or.inr z))
  have hV2 : XV 1 σ2 (wV w) := by
    intro s hs
    obtain ⟨a1, a2⟩ := hX.1.1 s hs
    refine ⟨by rw [ln_fo f12 (by unfold dU oO; omega) (by unfold dU oO; omega)]; exact a1, fun t ht h0 => ?_⟩
    rw [f12.rd (by unfold dU oO; omega)] at h0
    rw [f12.rd (by unfold dU oO; omega)]
    exact a2 t ht h0
  refine ⟨wNewU w U, p, ⟨⟨g.1.1, hU, g.1.2.2⟩, g.2.1, g.2.2.1, g.2.2.2⟩, gp, ⟨⟨hV2, XU_fo hx f2 (fun q a b => oO_ne (by omega)), XN_fo hX.1.2.2 f12 (fun q a b => by unfold dU oO; omega)⟩, XS_fo hX.2.1 f12 (fun q a b => by unfold dU oO; omega), fun i hi hn => TRc_fo f12 (fun j hj => by unfold dU oO; omega) (hX.2.2 i hi hn)⟩, ⟨hm, MS_fo hM.2.1 f12 (by unfold dU oO; omega), fun i hi hn => TRm_fo f12 (by unfold dU oO; omega) (hM.2.2 i hi hn)⟩, XT_fo hXT f12 (by unfold dU oO; omega) (by unfold dU oO; omega) (by unfold dU oO; omega), MP_fo hMP f12 (fun k _ _ => f12.rd (by unfold dU oO; omega) k) (by unfold dU oO; omega)⟩
theorem vok_sing {l h : Int} {n : Nat} {a : Ln} (ha : vok l h n a) (b k : Nat) (p : Int) (hp : l ≤ p ∧ p ≤ h) (hb : b + k ≤ n) (hk : 1 ≤ k) : vok l h n (lsing a b k p) := by
  intro t
  have h1 := ha t
  unfold lsing
  refine ⟨?_, fun ht => ?_⟩
  · split
    · exact Or.inr ⟨Or.inl rfl, hp⟩
    · split
      · exact Or.inr ⟨Or.inr rfl, hp⟩
      · split
        · next q =>
          rcases h1.1 with z | z
          · rw [z] at q; exact absurd q.2 (by show ¬ (0 : Int) = 2; decide)
          · exact Or.inr ⟨Or.inl rfl, z.2⟩
        · exact h1.1
  · have z := h1.2 ht
    rw [if_neg (by omega), if_neg (by omega), if_neg (fun q => by rw [z] at q; exact absurd q.2 (by show ¬ (0 : Int) = 2; decide))]
    exact z
theorem vok_sil {l h : Int} {n : Nat} {a : Ln} (ha : vok l h n a) (b k : Nat) (hb : b + k ≤ n) : vok l h n (lsil a b k) := by
  intro t
  have h1 := ha t
  unfold lsil
  refine ⟨?_, fun ht => ?_⟩
  · split
    · exact Or.inl rfl
    · split
      · next q =>
        rcases h1.1 with z | z
        · rw [z] at q; exact absurd q.2 (by show ¬ (0 : Int) = 2; decide)
        · exact Or.inr ⟨Or.inl rfl, z.2⟩
      · exact h1.1
  · have z := h1.2 ht
    rw [if_neg (by omega), if_neg (fun q => by rw [z] at q; exact absurd q.2 (by show ¬ (0 : Int) = 2; decide))]
    exact z
/-- a note or a rest, in a line -/
def lput (a : Ln) (b k : Nat) (p no : Int) : Ln := if p = no then lsil a b k else lsing a b k p
theorem vok_put {l h : Int} {n : Nat} {a : Ln} (ha : vok l h n a) (b k : Nat) (p no : Int) (hp : p = no ∨ (l ≤ p ∧ p ≤ h)) (hb : b + k ≤ n) (hk : 1 ≤ k) : vok l h n (lput a b k p no) := by
  unfold lput
  split
  · exact vok_sil ha b k hb
  · exact vok_sing ha b k p (by omega) hb hk
/-- how the reference keeps it -/
def cpt (F : Int × Int → Int) (no p : Int) (j : Nat) : Int := if p = no then F (0, 0) else if j = 0 then p else p + 100
theorem put_ce {a : Ln} (ha : vok 0 60 32 a) {b k : Nat} {p : Int} (hk : 1 ≤ k) (t : Nat) : ce (lput a b k p (-1) t) = if b ≤ t ∧ t < b + k then cpt ce (-1) p (t - b) else if t = b + k ∧ 100 ≤ ce (a t) then ce (a t) - 100 else ce (a t) := by
  have h1 := (ha t).1
  have hce : (100 ≤ ce (a t) ↔ (a t).1 = 2) ∧ ((a t).1 = 2 → ce (a t) = (a t).2 + 100) := by
    unfold ce
    rcases h1 with z | ⟨z, z2, z3⟩
    · rw [z]; exact ⟨⟨fun q => absurd q (by decide), fun q => absurd q (by show ¬ (0 : Int) = 2; decide)⟩, fun q => absurd q (by show ¬ (0 : Int) = 2; decide)⟩
    · rcases z with z | z <;> rw [z]
      · rw [if_neg (by decide), if_pos rfl]; exact ⟨⟨fun q => by omega, fun q => absurd q (by decide)⟩, fun q => absurd q (by decide)⟩
      · rw [if_neg (by decide), if_neg (by decide)]; exact ⟨⟨fun _ => rfl, fun _ => by omega⟩, fun _ => rfl⟩
  unfold lput cpt
  by_cases c : p = -1
  · rw [if_pos c]
    unfold lsil
    by_cases c1 : b ≤ t ∧ t < b + k
    · rw [if_pos c1, if_pos c1, if_pos c]
    · rw [if_neg c1, if_neg c1]
      by_cases c2 : t = b + k ∧ (a t).1 = 2
      · rw [if_pos c2, if_pos ⟨c2.1, hce.1.2 c2.2⟩, hce.2 c2.2]
        unfold ce
        rw [if_neg (show ¬ (1 : Int) = 0 by decide), if_pos rfl]
        omega
      · rw [if_neg c2, if_neg (fun q => c2 ⟨q.1, hce.1.1 q.2⟩)]
  · rw [if_neg c]
    unfold lsing
    by_cases c1 : b ≤ t ∧ t < b + k
    · rw [if_pos c1, if_neg c]
      by_cases c3 : t = b
      · have q : t - b = 0 := by omega
        rw [if_pos c3, if_pos q, if_pos c1]
        rfl
      · rw [if_neg c3, if_pos c1, if_neg (by omega)]
        unfold ce
        rw [if_neg (show ¬ (2 : Int) = 0 by decide), if_neg (show ¬ (2 : Int) = 1 by decide)]
    · rw [if_neg (fun q => c1 (by omega)), if_neg c1, if_neg c1]
      by_cases c2 : t = b + k ∧ (a t).1 = 2
      · rw [if_pos c2, if_pos ⟨c2.1, hce.1.2 c2.2⟩, hce.2 c2.2]
        unfold ce
        rw [if_neg (show ¬ (1 : Int) = 0 by decide), if_pos rfl]
        omega
      · rw [if_neg c2, if_neg (fun q => c2 ⟨q.1, hce.1.1 q.2⟩)]
theorem put_sc {a : Ln} (ha : vok (-20) 20 12 a) {b k : Nat} {p : Int} (hk : 1 ≤ k) (t : Nat) : sc (lput a b k p (-100) t) = if b ≤ t ∧ t < b + k then cpt sc (-100) p (t - b) else if t = b + k ∧ 50 < sc (a t) then sc (a t) - 100 else sc (a t) := by
  have h1 := (ha t).1
  have hce : (50 < sc (a t) ↔ (a t).1 = 2) ∧ ((a t).1 = 2 → sc (a t) = (a t).2 + 100) := by
    unfold sc
    rcases h1 with z | ⟨z, z2, z3⟩
    · rw [z]; exact ⟨⟨fun q => absurd q (by decide), fun q => absurd q (by show ¬ (0 : Int) = 2; decide)⟩, fun q => absurd q (by show ¬ (0 : Int) = 2; decide)⟩
    · rcases z with z | z <;> rw [z]
      · rw [if_neg (by decide), if_pos rfl]; exact ⟨⟨fun q => by omega, fun q => absurd q (by decide)⟩, fun q => absurd q (by decide)⟩
      · rw [if_neg (by decide), if_neg (by decide)]; exact ⟨⟨fun _ => rfl, fun _ => by omega⟩, fun _ => rfl⟩
  unfold lput cpt
  by_cases c : p = -100
  · rw [if_pos c]
    unfold lsil
    by_cases c1 : b ≤ t ∧ t < b + k
    · rw [if_pos c1, if_pos c1, if_pos c]
    · rw [if_neg c1, if_neg c1]
      by_cases c2 : t = b + k ∧ (a t).1 = 2
      · rw [if_pos c2, if_pos ⟨c2.1, hce.1.2 c2.2⟩, hce.2 c2.2]
        unfold sc
        rw [if_neg (show ¬ (1 : Int) = 0 by decide), if_pos rfl]
        omega
      · rw [if_neg c2, if_neg (fun q => c2 ⟨q.1, hce.1.1 q.2⟩)]
  · rw [if_neg c]
    unfold lsing
    by_cases c1 : b ≤ t ∧ t < b + k
    · rw [if_pos c1, if_neg c]
      by_cases c3 : t = b
      · have q : t - b = 0 := by omega
        rw [if_pos c3, if_pos q, if_pos c1]
        rfl
      · rw [if_neg c3, if_pos c1, if_neg (by omega)]
        unfold sc
        rw [if_neg (show ¬ (2 : Int) = 0 by decide), if_neg (show ¬ (2 : Int) = 1 by decide)]
    · rw [if_neg (fun q => c1 (by omega)), if_neg c1, if_neg c1]
      by_cases c2 : t = b + k ∧ (a t).1 = 2
      · rw [if_pos c2, if_pos ⟨c2.1, hce.1.2 c2.2⟩, hce.2 c2.2]
        unfold sc
        rw [if_neg (show ¬ (1 : Int) = 0 by decide), if_pos rfl]
        omega
      · rw [if_neg c2, if_neg (fun q => c2 ⟨q.1, hce.1.1 q.2⟩)]
theorem pM_note_60 (x1 v b : Nat) (h1 : x1 < 4) (hv : v < 4) (p : Int) (hp : -1 ≤ p ∧ p ≤ 60) (l : Nat) (hb : b + l ≤ 32) (σ0 : Zm) (P : Int → Zm → Prop) (K : Int → Int → Int → Int → Zm → Zr) (hK : ∀ σ', zfo (oO 274) σ0 σ' → (∀ k, zrd σ' 274 k = if 10 + 32 * (4 * x1 + v) + b ≤ k ∧ k < 10 + 32 * (4 * x1 + v) + b + l then cpt ce (-1) p (k - (10 + 32 * (4 * x1 + v) + b)) else zrd σ0 274 k) → zwp (K (x1 : Int) (v : Int) (b : Int) (l : Int) σ') P) : ∀ (d m j : Nat) (σ : Zm), d < m → j + d = l → zfo (oO 274) σ0 σ → (∀ k, zrd σ 274 k = if 10 + 32 * (4 * x1 + v) + b ≤ k ∧ k < 10 + 32 * (4 * x1 + v) + b + j then cpt ce (-1) p (k - (10 + 32 * (4 * x1 + v) + b)) else zrd σ0 274 k) → zwp (fM_note_60 m (x1 : Int) (v : Int) (b : Int) p (l : Int) (j : Int) σ K) P
  | 0, m + 1, j, σ, _, hj, f, hk => by
    have : j = l := by omega
    subst this
    rw [fM_note_60]
    simp only [zwp_let]
    rw [if_pos (by omega)]
    exact hK σ f hk
  | d + 1, m + 1, j, σ, hm, hj, f, hk => by
    have s1 : fM_spot σ (x1 : Int) (v : Int) (((b + j : Nat) : Int)) = some (((10 + 32 * (4 * x1 + v) + b + j : Nat) : Int), σ) := by
      unfold fM_spot
      refine congrArg some (Prod.ext ?_ rfl)
      show (_ : Int) = _
      omega
    have ez : zw ((j : Int) + 1) = ((j + 1 : Nat) : Int) := by rw [zwj (by omega) (by omega)]; omega
    have go : ∀ (σ1 : Zm) (c : Int), zfo (oO 274) σ σ1 → (∀ k, zrd σ1 274 k = if k = 10 + 32 * (4 * x1 + v) + b + j then zw c else zrd σ 274 k) → zw c = cpt ce (-1) p j → zwp (fM_note_60 m (x1 : Int) (v : Int) (b : Int) p (l : Int) ((j + 1 : Nat) : Int) σ1 K) P := by
      intro σ1 c f1 v1 hc
      refine pM_note_60 x1 v b h1 hv p hp l hb σ0 P K hK d m (j + 1) σ1 (by omega) (by omega) (f.tr f1) (fun k => ?_)
      rw [v1 k]
      by_cases q : k = 10 + 32 * (4 * x1 + v) + b + j
      · rw [if_pos q, if_pos (by omega), hc, q, show 10 + 32 * (4 * x1 + v) + b + j - (10 + 32 * (4 * x1 + v) + b) = j by omega]
      · rw [if_neg q, hk k]
        by_cases q2 : 10 + 32 * (4 * x1 + v) + b ≤ k ∧ k < 10 + 32 * (4 * x1 + v) + b + j
        · rw [if_pos q2, if_pos (by omega)]
        · rw [if_neg q2, if_neg (by omega)]
    rw [fM_note_60]
    simp only [zwp_let]
    rw [if_neg (by omega), show zw ((b : Int) + (j : Int)) = ((b + j : Nat) : Int) by rw [zwj (by omega) (by omega)]; omega, zbi_eq s1, zwj (a := ((10 + 32 * (4 * x1 + v) + b + j : Nat) : Int)) (by omega) (by omega), ez, Int.toNat_natCast]
    by_cases c : 0 ≤ p
    · rw [if_pos c]
      by_cases c2 : j = 0
      · rw [ifnn (show (j : Int) = 0 by omega), zckj (by omega) (by omega)]
        refine zwp_st (fun σ1 f1 v1 => go σ1 p f1 v1 ?_)
        unfold cpt
        rw [if_neg (by omega), if_pos c2]
        exact zwj (by omega) (by omega)
      · rw [if_pos (show ¬ (j : Int) = 0 by omega), zckj (by omega) (by omega)]
        refine zwp_st (fun σ1 f1 v1 => go σ1 (p + 100) f1 v1 ?_)
        unfold cpt
        rw [if_neg (by omega), if_neg c2]
        exact zwj (by omega) (by omega)
    · rw [if_neg c, zckj (by omega) (by omega)]
      refine zwp_st (fun σ1 f1 v1 => go σ1 (-1) f1 v1 ?_)
      unfold cpt
      rw [if_pos (by omega)]
      rfl
theorem pM_subject_70 (s b : Nat) (hs : s < 6) (p : Int) (hp : p = -100 ∨ (-20 ≤ p ∧ p ≤ 20)) (l : Nat) (hb : b + l ≤ 12) (σ0 : Zm) (P : Int → Zm → Prop) (K : Int → Int → Int → Int → Zm → Zr) (hK : ∀ σ', zfo (oO 274) σ0 σ' → (∀ k, zrd σ' 274 k = if 530 + 12 * s + b ≤ k ∧ k < 530 + 12 * s + b + l then cpt sc (-100) p (k - (530 + 12 * s + b)) else zrd σ0 274 k) → zwp (K (s : Int) (b : Int) (l : Int) ((530 + 12 * s + b : Nat) : Int) σ') P) : ∀ (d m j : Nat) (σ : Zm), d < m → j + d = l → zfo (oO 274) σ0 σ → (∀ k, zrd σ 274 k = if 530 + 12 * s + b ≤ k ∧ k < 530 + 12 * s + b + j then cpt sc (-100) p (k - (530 + 12 * s + b)) else zrd σ0 274 k) → zwp (fM_subject_70 m (s : Int) (b : Int) p (l : Int) ((530 + 12 * s + b : Nat) : Int) (j : Int) σ K) P
  | 0, m + 1, j, σ, _, hj, f, hk => by
    have : j = l := by omega
    subst this
    rw [fM_subject_70]
    simp only [zwp_let]
    rw [if_pos (by omega)]
    exact hK σ f hk
  | d + 1, m + 1, j, σ, hm, hj, f, hk => by
    have ez : zw ((j : Int) + 1) = ((j + 1 : Nat) : Int) := by rw [zwj (by omega) (by omega)]; omega
    have go : ∀ (σ1 : Zm) (c : Int), zfo (oO 274) σ σ1 → (∀ k, zrd σ1 274 k = if k = 530 + 12 * s + b + j then zw c else zrd σ 274 k) → zw c = cpt sc (-100) p j → zwp (fM_subject_70 m (s : Int) (b : Int) p (l : Int) ((530 + 12 * s + b : Nat) : Int) ((j + 1 : Nat) : Int) σ1 K) P := by
      intro σ1 c f1 v1 hc
      refine pM_subject_70 s b hs p hp l hb σ0 P K hK d m (j + 1) σ1 (by omega) (by omega) (f.tr f1) (fun k => ?_)
      rw [v1 k]
      by_cases q : k = 530 + 12 * s + b + j
      · rw [if_pos q, if_pos (by omega), hc, q, show 530 + 12 * s + b + j - (530 + 12 * s + b) = j by omega]
      · rw [if_neg q, hk k]
        by_cases q2 : 530 + 12 * s + b ≤ k ∧ k < 530 + 12 * s + b + j
        · rw [if_pos q2, if_pos (by omega)]
        · rw [if_neg q2, if_neg (by omega)]
    rw [fM_subject_70]
    simp only [zwp_let]
    rw [if_neg (by omega), show zw (((530 + 12 * s + b : Nat) : Int) + (j : Int)) = ((530 + 12 * s + b + j : Nat) : Int) by rw [zwj (by omega) (by omega)]; omega, ez, Int.toNat_natCast]
    by_cases c : p = -100
    · rw [ifnn c, zckj (by omega) (by omega)]
      refine zwp_st (fun σ1 f1 v1 => go σ1 (-1000) f1 v1 ?_)
      unfold cpt
      rw [if_pos c]
      rfl
    · rw [if_pos c]
      by_cases c2 : j = 0
      · rw [ifnn (show (j : Int) = 0 by omega), zckj (by omega) (by omega)]
        refine zwp_st (fun σ1 f1 v1 => go σ1 p f1 v1 ?_)
        unfold cpt
        rw [if_neg c, if_pos c2]
        exact zwj (by omega) (by omega)
      · rw [if_pos (show ¬ (j : Int) = 0 by omega), zckj (by omega) (by omega)]
        refine zwp_st (fun σ1 f1 v1 => go σ1 (p + 100) f1 v1 ?_)
        unfold cpt
        rw [if_neg c, if_neg c2]
        exact zwj (by omega) (by omega)
theorem MS_put {w : Wd} (g : GI w) {σ σ1 : Zm} (h : MS 274 σ (wV w) (wU w) (wN w)) {i b l : Nat} (hi : i < 16) {p : Int} (hl : 1 ≤ l) (hb : b + l ≤ 32) (hv : ∀ k, zrd σ1 274 k = if 10 + 32 * i + b ≤ k ∧ k < 10 + 32 * i + b + l then cpt ce (-1) p (k - (10 + 32 * i + b)) else if k = 10 + 32 * i + b + l ∧ b + l < 32 ∧ 100 ≤ zrd σ 274 k then zrd σ 274 k - 100 else zrd σ 274 k) : MS 274 σ1 (updl (wV w) i (lput (wV w i) b l p (-1))) (wU w) (wN w) := by
  obtain ⟨h1, h2, h3, h4, h5, h6, h7⟩ := h
  have keep : ∀ k, (k < 10 ∨ 522 ≤ k) → zrd σ1 274 k = zrd σ 274 k := fun k hk => by rw [hv, if_neg (by omega), if_neg (by omega)]
  refine ⟨fun i' t hi' ht => ?_, fun s c hs hc => by rw [keep _ (by omega)]; exact h2 s c hs hc, fun k hk => by rw [keep _ (by omega)]; exact h3 k hk, fun k hk => by rw [keep _ (by omega)]; exact h4 k hk, fun k hk => by rw [keep _ (by omega), keep _ (by omega)]; exact h5 k hk, fun k hk => by rw [keep _ (by omega)]; exact h6 k hk, fun k hk => by rw [keep _ (by omega)]; exact h7 k hk⟩
  rw [hv, h1 i' t hi' ht]
  unfold updl
  by_cases c : i' = i
  · rw [if_pos c, c, put_ce (g.1.1 i) hl t]
    by_cases q : b ≤ t ∧ t < b + l
    · rw [if_pos q, if_pos (by omega), show 10 + 32 * i + t - (10 + 32 * i + b) = t - b by omega]
    · rw [if_neg q, if_neg (by omega)]
      by_cases q2 : t = b + l ∧ 100 ≤ ce (wV w i t)
      · rw [if_pos q2, if_pos ⟨by omega, by omega, q2.2⟩]
      · rw [if_neg q2, if_neg (fun z => q2 ⟨by omega, z.2.2⟩)]
  · rw [if_neg c, if_neg (by omega), if_neg (by omega)]
theorem MS_put2 {w : Wd} (g : GI w) {σ σ1 : Zm} (h : MS 274 σ (wV w) (wU w) (wN w)) {i b l : Nat} (hi : i < 6) {p : Int} (hl : 1 ≤ l) (hb : b + l ≤ 12) (hv : ∀ k, zrd σ1 274 k = if 530 + 12 * i + b ≤ k ∧ k < 530 + 12 * i + b + l then cpt sc (-100) p (k - (530 + 12 * i + b)) else if k = 530 + 12 * i + b + l ∧ b + l < 12 ∧ 50 < zrd σ 274 k then zrd σ 274 k - 100 else zrd σ 274 k) : MS 274 σ1 (wV w) (updl (wU w) i (lput (wU w i) b l p (-100))) (wN w) := by
  obtain ⟨h1, h2, h3, h4, h5, h6, h7⟩ := h
  have keep : ∀ k, (k < 530 ∨ 602 ≤ k) → zrd σ1 274 k = zrd σ 274 k := fun k hk => by rw [hv, if_neg (by omega), if_neg (by omega)]
  refine ⟨fun s c hs hc => by rw [keep _ (by omega)]; exact h1 s c hs hc, fun i' t hi' ht => ?_, fun k hk => by rw [keep _ (by omega)]; exact h3 k hk, fun k hk => by rw [keep _ (by omega)]; exact h4 k hk, fun k hk => by rw [keep _ (by omega), keep _ (by omega)]; exact h5 k hk, fun k hk => by rw [keep _ (by omega)]; exact h6 k hk, fun k hk => by rw [keep _ (by omega)]; exact h7 k hk⟩
  rw [hv, h2 i' t hi' ht]
  unfold updl
  by_cases c : i' = i
  · rw [if_pos c, c, put_sc (g.1.2.1 i) hl t]
    by_cases q : b ≤ t ∧ t < b + l
    · rw [if_pos q, if_pos (by omega), show 530 + 12 * i + t - (530 + 12 * i + b) = t - b by omega]
    · rw [if_neg q, if_neg (by omega)]
      by_cases q2 : t = b + l ∧ 50 < sc (wU w i t)
      · rw [if_pos q2, if_pos ⟨by omega, by omega, q2.2⟩]
      · rw [if_neg q2, if_neg (fun z => q2 ⟨by omega, z.2.2⟩)]
  · rw [if_neg c, if_neg (by omega), if_neg (by omega)]
theorem st_note (x1 x2 x3 x4 x5 : Int) (h4 : zw x4 = x4) : St (fun σ => fX_note σ x1 x2 x3 x4 x5) (fun σ => fM_note σ x1 x2 x3 x4 x5) := by
  intro σ h
  have hI := h
  obtain ⟨w, p, g, gp, hX, hM, hXT, hMP⟩ := h
  show zwp (fX_note σ x1 x2 x3 x4 x5) (fun r1 σ1 => zwp (fM_note σ1 x1 x2 x3 x4 x5) (fun r2 σ2 => r1 = r2 ∧ Inv σ2))
  by_cases c : (0 ≤ x1 ∧ x1 ≤ 3) ∧ (0 ≤ x2 ∧ x2 ≤ 3) ∧ ((1 ≤ x5 ∧ x5 ≤ 8) ∧ 0 ≤ x3 ∧ x3 ≤ 32 - x5) ∧ (-1 ≤ x4 ∧ x4 ≤ 60)
  · obtain ⟨c1, c2, ⟨c5, c3⟩, c4⟩ := c
    obtain ⟨y, rfl, hy⟩ := nat_of (x := x1) (n := 4) (by omega)
    obtain ⟨v, rfl, hv⟩ := nat_of (x := x2) (n := 4) (by omega)
    obtain ⟨b, rfl, hb⟩ := nat_of (x := x3) (n := 32) (by omega)
    obtain ⟨l, rfl, hl⟩ := nat_of (x := x5) (n := 9) (by omega)
    obtain ⟨a1, a2, a3, a4⟩ := xVo hX.1.1 (show 4 * y + v < 16 by omega)
    have hV : ∀ i, vok 0 60 32 (updl (wV w) (4 * y + v) (lput (wV w (4 * y + v)) b l x4 (-1)) i) := by
      intro i
      unfold updl
      split
      · exact vok_put (g.1.1 _) b l x4 (-1) (by omega) (by omega) (by omega)
      · exact g.1.1 i
    -- the class, once the line is set
    have cls : ∀ (σ1 : Zm), zfo (oD (9 + 3 * (4 * y + v))) σ σ1 → ln 32 σ1 (9 + 3 * (4 * y + v)) = lput (wV w (4 * y + v)) b l x4 (-1) → lz 32 σ1 (9 + 3 * (4 * y + v)) → zwp (zbi (fS_lengthOf σ1 1 (y : Int)) fun v10 σ9 => some (v10, σ9)) (fun r1 σ1 => zwp (fM_note σ1 (y : Int) (v : Int) (b : Int) x4 (l : Int)) (fun r2 σ2 => r1 = r2 ∧ Inv σ2)) := by
      intro σ1 f1 l1 z1
      have hx : XV 1 σ1 (updl (wV w) (4 * y + v) (lput (wV w (4 * y + v)) b l x4 (-1))) := by
        intro i hi
        unfold updl
        by_cases q : i = 4 * y + v
        · rw [if_pos q, q, show 1 + 8 + 3 * (4 * y + v) = 9 + 3 * (4 * y + v) by omega]
          exact ⟨l1, z1⟩
        · rw [if_neg q]
          obtain ⟨b1, b2⟩ := hX.1.1 i hi
          have d1 : ¬ oD (9 + 3 * (4 * y + v)) (1 + 8 + 3 * i + 1) := by unfold oD; omega
          have d2 : ¬ oD (9 + 3 * (4 * y + v)) (1 + 8 + 3 * i + 2) := by unfold oD; omega
          refine ⟨by rw [ln_fo f1 d1 d2]; exact b1, fun t ht h0 => ?_⟩
          rw [f1.rd d2] at h0
          rw [f1.rd d1]
          exact b2 t ht h0
      have hpl := plen_le (updl (wV w) (4 * y + v) (lput (wV w (4 * y + v)) b l x4 (-1))) y
      rw [zbi_eq (qS_lengthOf (Or.inl rfl) σ1 _ hx y hy), zwj (a := (plen (updl (wV w) (4 * y + v) (lput (wV w (4 * y + v)) b l x4 (-1))) y : Int)) (by omega) (by omega), zwp_some]
      have f1' : zfo dV σ σ1 := f1.mono (fun q z => by unfold oD at z; unfold dV; omega)
      have m1 : MS 274 σ1 (wV w) (wU w) (wN w) := MS_fo hM.1 f1' (by unfold dV; omega)
      unfold fM_note
      rw [mPiece_t c1, if_neg (by decide), mVoice_t c2, if_neg (by decide), mIn_t (by omega), if_neg (by decide), mIn_t c4, if_neg (by decide), mIn_t c5, if_neg (by decide), show zw ((b : Int) + (l : Int)) = ((b + l : Nat) : Int) by rw [zwj (by omega) (by omega)]; omega, if_pos (by omega)]
      refine pM_note_60 y v b hy hv x4 c4 l (by omega) σ1 _ _ (fun σ2 f2 v2 => ?_) l 5000 0 σ1 (by omega) (by omega) zfo.rf (fun k => by rw [if_neg (by omega)])
      have s1 : fM_spot σ2 (y : Int) (v : Int) (b : Int) = some (((10 + 32 * (4 * y + v) + b : Nat) : Int), σ2) := by
        unfold fM_spot
        refine congrArg some (Prod.ext ?_ rfl)
        show (_ : Int) = _
        omega
      have fin : ∀ σ3, zfo (oO 274) σ1 σ3 → (∀ k, zrd σ3 274 k = if 10 + 32 * (4 * y + v) + b ≤ k ∧ k < 10 + 32 * (4 * y + v) + b + l then cpt ce (-1) x4 (k - (10 + 32 * (4 * y + v) + b)) else if k = 10 + 32 * (4 * y + v) + b + l ∧ b + l < 32 ∧ 100 ≤ zrd σ1 274 k then zrd σ1 274 k - 100 else zrd σ1 274 k) → zwp (zbi (fM_lengthOf σ3 (y : Int)) fun v25 σ24 => some (v25, σ24)) (fun r2 σ2 => (plen (updl (wV w) (4 * y + v) (lput (wV w (4 * y + v)) b l x4 (-1))) y : Int) = r2 ∧ Inv σ2) := by
        intro σ3 f3 v3
        have m3 := MS_put g m1 (i := 4 * y + v) (by omega) (p := x4) (by omega) (by omega) v3
        rw [zbi_eq (qM_lengthOf hV y hy σ3 m3.1), zwj (a := (plen (updl (wV w) (4 * y + v) (lput (wV w (4 * y + v)) b l x4 (-1))) y : Int)) (by omega) (by omega), zwp_some]
        exact ⟨rfl, Inv_V g gp hX hM hXT hMP hV f1' hx f3 m3⟩
      have hA : ∀ k, k < 700 → zrd σ1 274 k = zrd σ 274 k := fun k _ => f1'.rd (by unfold dV; omega) k
      rw [zbi_eq s1, zwj (a := ((10 + 32 * (4 * y + v) + b : Nat) : Int)) (by omega) (by omega), zwp_let, show zw (((10 + 32 * (4 * y + v) + b : Nat) : Int) + (l : Int)) = ((10 + 32 * (4 * y + v) + b + l : Nat) : Int) by rw [zwj (by omega) (by omega)]; omega, show zw ((b : Int) + (l : Int)) = ((b + l : Nat) : Int) by rw [zwj (by omega) (by omega)]; omega]
      by_cases d1 : 32 ≤ b + l
      · rw [if_pos (by omega)]
        exact fin σ2 f2 (fun k => by
          rw [v2 k]
          by_cases q : 10 + 32 * (4 * y + v) + b ≤ k ∧ k < 10 + 32 * (4 * y + v) + b + l
          · rw [if_pos q, if_pos q]
          · rw [if_neg q, if_neg q, if_neg (by omega)])
      · have e2 : zrd σ2 274 (10 + 32 * (4 * y + v) + b + l) = zrd σ1 274 (10 + 32 * (4 * y + v) + b + l) := by rw [v2, if_neg (by omega)]
        rw [if_neg (by omega), zckj (by omega) (by omega), zwp_let, Int.toNat_natCast, e2]
        by_cases d2 : zrd σ1 274 (10 + 32 * (4 * y + v) + b + l) < 100
        · rw [if_pos d2]
          exact fin σ2 f2 (fun k => by
            rw [v2 k]
            by_cases q : 10 + 32 * (4 * y + v) + b ≤ k ∧ k < 10 + 32 * (4 * y + v) + b + l
            · rw [if_pos q, if_pos q]
            · rw [if_neg q, if_neg q, if_neg (fun z => by have := z.2.2; rw [z.1] at this; omega)])
        · have hbd : zrd σ1 274 (10 + 32 * (4 * y + v) + b + l) ≤ 160 := by
            have := m1.1 (4 * y + v) (b + l) (by omega) (by omega)
            rw [show 10 + 32 * (4 * y + v) + b + l = 10 + 32 * (4 * y + v) + (b + l) by omega, this]
            have := (g.1.1 (4 * y + v) (b + l)).1
            unfold ce
            rcases this with z | ⟨z, z2⟩
            · rw [z, if_pos rfl]; decide
            · split
              · decide
              · split <;> omega
          rw [if_neg d2, zckj (by omega) (by omega), zwp_let, zckj (by omega) (by omega)]
          refine zwp_st (fun σ3 f3 v3 => ?_)
          refine fin σ3 (f2.tr f3) (fun k => ?_)
          rw [v3 k]
          by_cases q : k = 10 + 32 * (4 * y + v) + b + l
          · rw [if_pos q, if_neg (by omega), if_pos ⟨q, by omega, by rw [q]; omega⟩, q, zwj (by omega) (by omega)]
          · rw [if_neg q, v2 k]
            by_cases q2 : 10 + 32 * (4 * y + v) + b ≤ k ∧ k < 10 + 32 * (4 * y + v) + b + l
            · rw [if_pos q2, if_pos q2]
            · rw [if_neg q2, if_neg q2, if_neg (fun z => q z.1)]
    have x45 : zwp (fX_note_45 (y : Int) (v : Int) (b : Int) x4 (l : Int) σ) (fun r1 σ1 => zwp (fM_note σ1 (y : Int) (v : Int) (b : Int) x4 (l : Int)) (fun r2 σ2 => r1 = r2 ∧ Inv σ2)) := by
      unfold fX_note_45
      rw [zvo hy hv, zckj (by omega) (by omega), Int.toNat_natCast, a1]
      by_cases d : x4 = -1
      · rw [ifnn d, zwp_bv]
        refine zwp_mono (pL_silence (9 + 3 * (4 * y + v)) 32 a2 (by omega) σ b l (by omega)) (fun _ σ1 ⟨f1, l1, z1⟩ => cls σ1 f1 ?_ (z1 a4))
        rw [l1, a3]
        unfold lput
        rw [if_pos d]
      · rw [if_pos d, zwp_bv]
        refine zwp_mono (pL_sing (9 + 3 * (4 * y + v)) 32 a2 (by omega) σ b l x4 h4 (by omega) (by omega)) (fun _ σ1 ⟨f1, l1, z1⟩ => cls σ1 f1 ?_ (z1 a4))
        rw [l1, a3]
        unfold lput
        rw [if_neg d]
    unfold fX_note
    rw [xPiece_t c1, if_neg (by decide), xVoice_t c2, if_neg (by decide), pX_isNote, if_pos (show (1 ≤ (l : Int) ∧ (l : Int) ≤ 8) ∧ (0 ≤ (b : Int) ∧ (b : Int) ≤ zw (32 - (l : Int))) by rw [zwj (by omega) (by omega)]; omega), zbi_some, if_pos (by decide)]
    by_cases d : x4 = -1
    · rw [if_pos d]
      exact x45
    · rw [if_neg d, xPitch_t (by omega), if_pos (by decide)]
      exact x45
  · have e1 : fX_note σ x1 x2 x3 x4 x5 = some (-1, σ) := by
      unfold fX_note
      by_cases c1 : 0 ≤ x1 ∧ x1 ≤ 3
      · rw [xPiece_t c1, if_neg (by decide)]
        by_cases c2 : 0 ≤ x2 ∧ x2 ≤ 3
        · rw [xVoice_t c2, if_neg (by decide), pX_isNote]
          by_cases c3 : (1 ≤ x5 ∧ x5 ≤ 8) ∧ (0 ≤ x3 ∧ x3 ≤ zw (32 - x5))
          · have c3' := c3
            rw [zwj (by omega) (by omega)] at c3'
            rw [if_pos c3, zbi_some, if_pos (by decide), if_neg (fun z => c ⟨c1, c2, c3', by omega⟩), xPitch_f (fun z => c ⟨c1, c2, c3', by omega⟩), if_neg (by decide)]
          · rw [if_neg c3, zbi_some, if_neg (by decide)]
        · rw [xVoice_f c2, if_pos rfl]
      · rw [xPiece_f c1, if_pos rfl]
    have e2 : fM_note σ x1 x2 x3 x4 x5 = some (-1, σ) := by
      unfold fM_note
      by_cases c1 : 0 ≤ x1 ∧ x1 ≤ 3
      · rw [mPiece_t c1, if_neg (by decide)]
        by_cases c2 : 0 ≤ x2 ∧ x2 ≤ 3
        · rw [mVoice_t c2, if_neg (by decide)]
          by_cases c3 : 0 ≤ x3 ∧ x3 ≤ 31
          · rw [mIn_t c3, if_neg (by decide)]
            by_cases c4 : -1 ≤ x4 ∧ x4 ≤ 60
            · rw [mIn_t c4, if_neg (by decide)]
              by_cases c5 : 1 ≤ x5 ∧ x5 ≤ 8
              · rw [mIn_t c5, if_neg (by decide), if_neg (fun z => by rw [zwj (by omega) (by omega)] at z; exact c ⟨c1, c2, ⟨c5, by omega⟩, c4⟩)]
              · rw [mIn_f c5, if_pos rfl]
            · rw [mIn_f c4, if_pos rfl]
          · rw [mIn_f c3, if_pos rfl]
        · rw [mVoice_f c2, if_pos rfl]
      · rw [mPiece_f c1, if_pos rfl]
    exact St_neg (G := fun σ => fM_note σ x1 x2 x3 x4 x5) hI e1 e2

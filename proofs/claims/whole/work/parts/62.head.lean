/-! MY OWN: head, lasts -/
theorem MV_cell {A : Nat → Ln} {σ σ2 : Zm} (h : MV A σ) (r t : Nat) (hr : r < 4) (ht : t < 32) (p : Int) (hp : -500 ≤ p ∧ p ≤ 500) (b : Int) (hb : b = 0 ∨ b = 1) (e2 : ∀ k, zrd σ2 282 k = if k = 32 * r + t then p else zrd σ 282 k) (e3 : ∀ k, zrd σ2 283 k = if k = 32 * r + t then b else zrd σ 283 k) : MV (updl A r (fun x => if x = t then ((if b = 1 then 1 else 2), p) else A r x)) σ2 := by
  refine ⟨fun k hk => ?_, fun i hi => ?_⟩
  · rw [e2 k, e3 k]
    have := h.1 k hk
    by_cases c : k = 32 * r + t
    · rw [if_pos c, if_pos c]
      exact ⟨hb, fun z => by omega⟩
    · rw [if_neg c, if_neg c]; exact this
  · have h2 := h.2 i hi
    funext x
    have hx := congrFun h2 x
    unfold ms at hx ⊢
    unfold updl
    rw [e2, e3]
    by_cases c : i = r
    · rw [if_pos c]
      subst c
      by_cases d : x = t
      · have q : 32 * i + x = 32 * i + t := by omega
        rw [if_pos d, if_pos q, if_pos q, if_pos ⟨by omega, by omega⟩]
        rcases hb with hb | hb <;> rw [hb]
        · rw [if_neg (by decide), if_neg (by decide)]
        · rw [if_pos (by decide), if_pos rfl]
      · rw [if_neg d]
        by_cases c32 : x < 32
        · have q : ¬ 32 * i + x = 32 * i + t := by omega
          rw [if_neg q, if_neg q]
          exact hx
        · rw [if_neg (fun z => c32 z.1)]
          rw [if_neg (fun z => c32 z.1)] at hx
          exact hx
    · rw [if_neg c]
      by_cases c32 : x < 32
      · have q : ¬ 32 * i + x = 32 * r + t := by omega
        rw [if_neg q, if_neg q]
        exact hx
      · rw [if_neg (fun z => c32 z.1)]
        rw [if_neg (fun z => c32 z.1)] at hx
        exact hx
theorem MV_cg {A B : Nat → Ln} {σ : Zm} (h : MV A σ) (e : ∀ v, v < 4 → A v = B v) : MV B σ := ⟨h.1, fun v hv => (h.2 v hv).trans (e v hv)⟩
def OV (V : Nat → Ln) (p : Nat) (c : Int) (r : Nat) : Ln := lov (V (4 * p + (3 - r))) c
def HA (V : Nat → Ln) (p : Nat) (c : Int) (v t : Nat) : Nat → Ln := fun r y => if 3 - r < v ∨ (3 - r = v ∧ y < t) then OV V p c r y else (0, 0)
def hin (V : Nat → Ln) (p : Nat) (c : Int) (n : Nat) (r : Int) : Prop := (r = 0 ∨ r = 1) ∧ (r = 1 ↔ ∀ v, v < n → loc (V (4 * p + v)) c 32 = 1)
theorem pM_head_56 {w : Wd} (g : GI w) {p v : Nat} (hp : p < 4) (hv : v < 4) (x1 x4 : Int) (c : Int) (hc : 0 ≤ c ∧ c ≤ 120) (x50 : Int) (h50 : x50 = 0 ∨ x50 = 1) (σ0 : Zm) (hM : MSv 274 σ0 (wV w)) (P : Int → Zm → Prop) (K : Int → Int → Int → Int → Int → Int → Zm → Zr) (hK : ∀ σ', zfo oSh σ0 σ' → MV (HA (wV w) p c v 32) σ' → zwp (K x1 (p : Int) c x4 (if x50 = 0 ∨ loc (wV w (4 * p + v)) c 32 = 0 then 0 else 1) (v : Int) σ') P) : ∀ (d m t : Nat) (σ : Zm), d < m → t + d = 32 → zfo oSh σ0 σ → MV (HA (wV w) p c v t) σ → zwp (fM_head_56 m x1 (p : Int) c x4 (if x50 = 0 ∨ loc (wV w (4 * p + v)) c t = 0 then 0 else 1) (v : Int) (t : Int) σ K) P
  | 0, m + 1, t, σ, _, ht, h1, h2 => by
    have : t = 32 := by omega
    subst this
    rw [fM_head_56]
    simp only [zwp_let]
    rw [if_pos (by decide)]
    exact hK σ h1 h2
  | d + 1, m + 1, t, σ, hm, ht, h1, h2 => by
    have ih := fun σ1 => pM_head_56 g hp hv x1 x4 c hc x50 h50 σ0 hM P K hK d m (t + 1) σ1 (by omega) (by omega)
    have s1 : fM_spot σ (p : Int) (v : Int) (t : Int) = some (((10 + 32 * (4 * p + v) + t : Nat) : Int), σ) := by
      unfold fM_spot
      refine congrArg some (Prod.ext ?_ rfl)
      show (_ : Int) = _
      omega
    have ez : zw ((t : Int) + 1) = ((t + 1 : Nat) : Int) := by rw [zwj (by omega) (by omega)]; omega
    have el : loc (wV w (4 * p + v)) c (t + 1) = if (wV w (4 * p + v) t).1 = 0 ∨ (0 ≤ c - (wV w (4 * p + v) t).2 ∧ c - (wV w (4 * p + v) t).2 ≤ 60) then loc (wV w (4 * p + v)) c t else 0 := rfl
    have h01 := loc_01 (wV w (4 * p + v)) c t
    rw [fM_head_56]
    simp only [zwp_let]
    rw [if_neg (by omega), zbi_eq s1, zwj (a := ((10 + 32 * (4 * p + v) + t : Nat) : Int)) (by omega) (by omega), zckj (by omega) (by omega), zwp_let, Int.toNat_natCast, h1.rd (by unfold oSh; omega), hM (4 * p + v) t (by omega) (by omega)]
    have hvk := g.1.1 (4 * p + v) t
    rcases hvk.1 with h0 | ⟨h0, h60⟩
    · -- silent
      have hce : ce (wV w (4 * p + v) t) = -1 := by rw [h0]; rfl
      rw [hce, if_neg (by decide), ez]
      rw [if_pos (Or.inl (by rw [h0]))] at el
      have := ih σ h1 (MV_cg h2 (fun r hr => by
        funext y
        unfold HA
        by_cases q : 3 - r = v ∧ y = t
        · rw [if_neg (by omega), if_pos (by omega)]
          unfold OV lov
          rw [q.1, q.2, h0, if_pos rfl]
        · by_cases q2 : 3 - r < v ∨ (3 - r = v ∧ y < t)
          · rw [if_pos q2, if_pos (by omega)]
          · rw [if_neg q2, if_neg (by omega)]))
      rw [el] at this
      exact this
    · have hne : (wV w (4 * p + v) t).1 ≠ 0 := by omega
      have hce : ce (wV w (4 * p + v) t) = (if (wV w (4 * p + v) t).1 = 1 then (wV w (4 * p + v) t).2 else (wV w (4 * p + v) t).2 + 100) := by
        unfold ce
        rw [if_neg hne]
      have hge : 0 ≤ ce (wV w (4 * p + v) t) := by rw [hce]; split <;> omega
      have hmod : Int.tmod (ce (wV w (4 * p + v) t)) 100 = (wV w (4 * p + v) t).2 := by
        rw [hce]
        obtain ⟨q, hq⟩ : ∃ q : Nat, (wV w (4 * p + v) t).2 = (q : Int) := ⟨(wV w (4 * p + v) t).2.toNat, by omega⟩
        rw [hq]
        split
        · rw [show Int.tmod (q : Int) 100 = ((q % 100 : Nat) : Int) from rfl]
          omega
        · rw [show ((q : Int) + 100) = ((q + 100 : Nat) : Int) by omega, show Int.tmod ((q + 100 : Nat) : Int) 100 = (((q + 100) % 100 : Nat) : Int) from rfl]
          omega
      rw [if_pos hge, hmod, zwp_let, zwj (a := c - (wV w (4 * p + v) t).2) (by omega) (by omega)]
      -- writing the cell
      have cell : ∀ b : Int, (b = if x50 = 0 ∨ loc (wV w (4 * p + v)) c (t + 1) = 0 then 0 else 1) → zwp (fM_head_118 (fun (x1 : Int) (x2 : Int) (x3 : Int) (x4 : Int) (x5 : Int) (x6 : Int) (x7 : Int) (σ : Zm) => fM_head_56 m x1 x2 x3 x4 x5 x6 x7 σ K) K x1 (p : Int) c x4 b (v : Int) (t : Int) (ce (wV w (4 * p + v) t)) (c - (wV w (4 * p + v) t).2) σ) P := by
        intro b hb
        unfold fM_head_118
        rw [show zw (32 * (3 - (v : Int)) + (t : Int)) = ((32 * (3 - v) + t : Nat) : Int) by rw [zwj (by omega) (by omega)]; omega, zckj (by omega) (by omega), Int.toNat_natCast]
        refine zwp_st (fun σ1 f1 v1 => ?_)
        have fin : ∀ (s : Int) (σ2 : Zm), (s = 0 ∨ s = 1) → (s = 1 ↔ (wV w (4 * p + v) t).1 = 1) → zfo (oO 283) σ1 σ2 → (∀ j, zrd σ2 283 j = if j = 32 * (3 - v) + t then zw s else zrd σ1 283 j) → zwp (fM_head_56 m x1 (p : Int) c x4 b (v : Int) (zw ((t : Int) + 1)) σ2 K) P := by
          intro s σ2 hs hs1 f2 v2
          have hzs : zw s = s := zwj (by omega) (by omega)
          have := MV_cell (σ2 := σ2) h2 (3 - v) t (by omega) (by omega) (c - (wV w (4 * p + v) t).2) (by omega) s hs (fun k => by rw [f2.rd (oO_ne (by omega)), v1 k, zwj (a := c - (wV w (4 * p + v) t).2) (by omega) (by omega)]) (fun k => by rw [v2 k, hzs, f1.rd (oO_ne (by omega))])
          rw [ez, hb]
          refine ih σ2 ((h1.tr (f1.mono (fun q z => Or.inl z))).tr (f2.mono (fun q z => Or.inr z))) (MV_cg this (fun r hr => ?_))
          funext y
          unfold updl
          by_cases q : r = 3 - v
          · rw [if_pos q]
            by_cases q2 : y = t
            · rw [if_pos q2]
              unfold HA
              rw [q, q2, if_pos (show 3 - (3 - v) < v ∨ (3 - (3 - v) = v ∧ t < t + 1) by omega)]
              unfold OV lov
              rw [show 3 - (3 - v) = v by omega, if_neg hne]
              refine Prod.ext ?_ rfl
              show (if s = 1 then (1 : Int) else 2) = _
              by_cases q3 : s = 1
              · rw [if_pos q3, hs1.1 q3]
              · rw [if_neg q3]
                have : ¬ (wV w (4 * p + v) t).1 = 1 := fun z => q3 (hs1.2 z)
                omega
            · rw [if_neg q2, q]
              unfold HA
              by_cases q3 : 3 - (3 - v) < v ∨ (3 - (3 - v) = v ∧ y < t)
              · rw [if_pos q3, if_pos (by omega)]
              · rw [if_neg q3, if_neg (by omega)]
          · rw [if_neg q]
            unfold HA
            by_cases q3 : 3 - r < v ∨ (3 - r = v ∧ y < t)
            · rw [if_pos q3, if_pos (by omega)]
            · rw [if_neg q3, if_neg (by omega)]
        by_cases c1 : 100 ≤ ce (wV w (4 * p + v) t)
        · rw [if_pos c1, zckj (by omega) (by omega)]
          refine zwp_st (fun σ2 f2 v2 => fin 0 σ2 (Or.inl rfl) ⟨fun q => absurd q (by decide), fun q => ?_⟩ f2 v2)
          rw [hce, if_pos q] at c1
          omega
        · rw [if_neg c1, zckj (by omega) (by omega)]
          refine zwp_st (fun σ2 f2 v2 => fin 1 σ2 (Or.inr rfl) ⟨fun _ => ?_, fun _ => rfl⟩ f2 v2)
          rw [hce] at c1
          by_cases q : (wV w (4 * p + v) t).1 = 1
          · exact q
          · rw [if_neg q] at c1; omega
      by_cases d1 : x50 = 0 ∨ loc (wV w (4 * p + v)) c t = 0
      · rw [if_pos d1, if_pos rfl]
        unfold fM_head_115
        refine cell 0 ?_
        rw [if_pos]
        rcases d1 with d1 | d1
        · exact Or.inl d1
        · right
          rw [el, d1]
          split <;> rfl
      · rw [if_neg d1, if_neg (by decide)]
        by_cases d2 : 0 ≤ c - (wV w (4 * p + v) t).2 ∧ c - (wV w (4 * p + v) t).2 ≤ 60
        · rw [mIn_t d2, if_neg (by decide)]
          refine cell 1 ?_
          rw [if_neg]
          rw [el, if_pos (Or.inr d2)]
          exact d1
        · rw [mIn_f d2, if_pos rfl]
          unfold fM_head_115
          refine cell 0 ?_
          rw [if_pos]
          right
          rw [el, if_neg (fun q => by rcases q with q | q; exact hne q; exact d2 q)]
theorem pM_head_47 {w : Wd} (g : GI w) {p : Nat} (hp : p < 4) (x1 x4 : Int) (c : Int) (hc : 0 ≤ c ∧ c ≤ 120) (σ0 : Zm) (hM : MSv 274 σ0 (wV w)) (P : Int → Zm → Prop) (K : Int → Int → Int → Zm → Zr) (hK : ∀ r σ', zfo oSh σ0 σ' → MV (OV (wV w) p c) σ' → hin (wV w) p c 4 r → zwp (K x1 x4 r σ') P) : ∀ (d m v : Nat) (r : Int) (σ : Zm), d < m → v + d = 4 → zfo oSh σ0 σ → MV (HA (wV w) p c v 0) σ → hin (wV w) p c v r → zwp (fM_head_47 m x1 (p : Int) c x4 r (v : Int) σ K) P
  | 0, m + 1, v, r, σ, _, hv, h1, h2, h3 => by
    have : v = 4 := by omega
    subst this
    rw [fM_head_47]
    simp only [zwp_let]
    rw [if_pos (by decide)]
    refine hK r σ h1 (MV_cg h2 (fun i hi => ?_)) h3
    funext y
    unfold HA
    rw [if_pos (by omega)]
  | d + 1, m + 1, v, r, σ, hm, hv, h1, h2, h3 => by
    have h01 := loc_01 (wV w (4 * p + v)) c 32
    rw [fM_head_47]
    simp only [zwp_let]
    rw [if_neg (by omega)]
    have hM' : MSv 274 σ (wV w) := fun i t hi ht => by rw [h1.rd (by unfold oSh; omega)]; exact hM i t hi ht
    have hr : r = (if r = 0 ∨ loc (wV w (4 * p + v)) c 0 = 0 then 0 else 1) := by
      rcases h3.1 with q | q <;> subst q
      · rw [if_pos (Or.inl rfl)]
      · rw [if_neg]
        rintro (z | z)
        · exact absurd z (by decide)
        · exact absurd z (by show ¬ (1 : Int) = 0; decide)
    have := pM_head_56 g hp (show v < 4 by omega) x1 x4 c hc r h3.1 σ hM' P (fun y20 y21 y22 y23 y24 y25 σ19 => fM_head_47 m y20 y21 y22 y23 y24 (zw (y25 + 1)) σ19 K) (fun σ1 f1 v1 => ?_) 32 5000 0 σ (by omega) (by omega) zfo.rf h2
    · rw [← hr] at this
      exact this
    · rw [show zw ((v : Int) + 1) = ((v + 1 : Nat) : Int) by rw [zwj (by omega) (by omega)]; omega]
      refine pM_head_47 g hp x1 x4 c hc σ0 hM P K hK d m (v + 1) _ σ1 (by omega) (by omega) (h1.tr f1) (MV_cg v1 (fun i hi => ?_)) ⟨?_, ?_⟩
      · funext y
        unfold HA
        by_cases q : 3 - i < v ∨ (3 - i = v ∧ y < 32)
        · rw [if_pos q, if_pos (by omega)]
        · rw [if_neg q]
          by_cases q2 : 3 - i = v
          · rw [if_pos (by omega)]
            unfold OV lov
            have := (g.1.1 (4 * p + (3 - i)) y).2 (by omega)
            rw [this, if_pos rfl]
          · rw [if_neg (by omega)]
      · split
        · exact Or.inl rfl
        · exact Or.inr rfl
      · constructor
        · intro q i hi
          by_cases q2 : r = 0 ∨ loc (wV w (4 * p + v)) c 32 = 0
          · rw [if_pos q2] at q; exact absurd q (by decide)
          · by_cases q3 : i = v
            · rw [q3]; omega
            · exact h3.2.1 (by have := h3.1; omega) i (by omega)
        · intro q
          have q1 := h3.2.2 (fun i hi => q i (by omega))
          have q2 := q v (by omega)
          rw [if_neg (by omega)]
theorem oL_q {i : Nat} (h : i < 4) : zRF 224 i = 261 + 3 * i ∧ zli 32 (261 + 3 * i) := by
  have h2 : ∀ i : Nat, i < 4 → zRF 224 i = 261 + 3 * i ∧ zLN (261 + 3 * i + 1) = 32 ∧ zLN (261 + 3 * i + 2) = 32 := by decide +kernel
  exact ⟨(h2 i h).1, (h2 i h).2.1, (h2 i h).2.2⟩
def oOv (q : Nat) : Prop := 261 ≤ q ∧ q ≤ 272
def hin2 (V : Nat → Ln) (p : Nat) (c : Int) (n : Nat) (r : Int) : Prop := (r = 0 ∨ r = 1) ∧ (r = 1 ↔ ∀ v, v < n → loc (V (4 * p + (3 - v))) c 32 = 1)
theorem pX_head_43 {w : Wd} (g : GI w) {p : Nat} (hp : p < 4) (x1 x4 : Int) (c : Int) (hc : 0 ≤ c ∧ c ≤ 120) (σ0 : Zm) (hX : XV 1 σ0 (wV w)) (P : Int → Zm → Prop) (K : Int → Int → Int → Zm → Zr) (hK : ∀ r σ', zfo oOv σ0 σ' → (∀ i, i < 4 → ln 32 σ' (261 + 3 * i) = OV (wV w) p c i) → hin2 (wV w) p c 4 r → zwp (K x1 x4 r σ') P) : ∀ (d m i : Nat) (r : Int) (σ : Zm), d < m → i + d = 4 → zfo oOv σ0 σ → (∀ k, k < i → ln 32 σ (261 + 3 * k) = OV (wV w) p c k) → hin2 (wV w) p c i r → zwp (fX_head_43 m x1 (p : Int) c x4 r (i : Int) σ K) P
  | 0, m + 1, i, r, σ, _, hi, h1, h2, h3 => by
    have : i = 4 := by omega
    subst this
    rw [fX_head_43]
    simp only [zwp_let]
    rw [if_pos (by decide)]
    exact hK r σ h1 h2 h3
  | d + 1, m + 1, i, r, σ, hm, hi, h1, h2, h3 => by
    obtain ⟨a1, a2⟩ := oL_q (i := i) (by omega)
    have hX1 : XV 1 σ (wV w) := XV_fo hX h1 (fun q a b => by unfold oOv; omega)
    obtain ⟨b1, b2, b3, b4⟩ := xVo hX1 (show 4 * p + (3 - i) < 16 by omega)
    have h01 := loc_01 (wV w (4 * p + (3 - i))) c 32
    rw [fX_head_43]
    simp only [zwp_let]
    rw [if_neg (by omega), zckj (by omega) (by omega), show zw ((p : Int) * 4 + 4 - 1 - (i : Int)) = ((4 * p + (3 - i) : Nat) : Int) by rw [zwj (by omega) (by omega)]; omega, zckj (by omega) (by omega), Int.toNat_natCast, Int.toNat_natCast, a1, b1, zwp_bi]
    refine zwp_mono (qL_takeOverturned a2 b2 (by omega) σ (by rw [b3]; exact vok_sm (g.1.1 _)) c hc) (fun q σ1 ⟨f1, l1, e1⟩ => ?_)
    rw [b3] at l1 e1
    have f1' : zfo oOv σ σ1 := f1.mono (fun q z => by unfold oD at z; unfold oOv; omega)
    have ih := fun r hr => pX_head_43 g hp x1 x4 c hc σ0 hX P K hK d m (i + 1) r σ1 (by omega) (by omega) (h1.tr f1') (fun k hk => by
      by_cases q : k = i
      · rw [q, l1]; rfl
      · rw [ln_fo f1 (by unfold oD; omega) (by unfold oD; omega)]
        exact h2 k (by omega)) hr
    rw [e1, show zw (loc (wV w (4 * p + (3 - i))) c 32) = loc (wV w (4 * p + (3 - i))) c 32 by rcases h01 with q | q <;> rw [q] <;> rfl, show zw ((i : Int) + 1) = ((i + 1 : Nat) : Int) by rw [zwj (by omega) (by omega)]; omega]
    by_cases c1 : loc (wV w (4 * p + (3 - i))) c 32 = 0
    · rw [if_pos c1]
      exact ih 0 ⟨Or.inl rfl, fun q => absurd q (by decide), fun q => by have := q i (by omega); omega⟩
    · rw [if_neg c1]
      by_cases c2 : r = 0
      · rw [if_pos c2]
        exact ih 0 ⟨Or.inl rfl, fun q => absurd q (by decide), fun q => by have := h3.2.2 (fun v hv => q v (by omega)); omega⟩
      · rw [if_neg c2]
        refine ih 1 ⟨Or.inr rfl, fun _ v hv => ?_, fun _ => rfl⟩
        by_cases q : v = i
        · rw [q]; omega
        · exact h3.2.1 (by have := h3.1; omega) v (by omega)
theorem lov_sm {a : Ln} (ha : vok 0 60 32 a) {c : Int} (hc : 0 ≤ c ∧ c ≤ 120) : lsm (lov a c) := by
  intro t
  have := vok_60 ha t
  unfold lov
  split
  · exact ⟨show (-1000 : Int) ≤ 0 by decide, show (0 : Int) ≤ 1000 by decide⟩
  · show -1000 ≤ c - (a t).2 ∧ c - (a t).2 ≤ 1000
    omega
theorem nX_head {w : Wd} {σ : Zm} (g : GI w) (hX : XI w σ) (x1 x2 x3 x4 : Int) (c : ¬ ((0 ≤ x1 ∧ x1 < wN w 1) ∧ (0 ≤ x2 ∧ x2 ≤ 3) ∧ (0 ≤ x3 ∧ x3 ≤ 120) ∧ (0 ≤ x4 ∧ x4 ≤ 1))) : fX_head σ x1 x2 x3 x4 = some ((-1), σ) := by
  unfold fX_head
  by_cases c0 : 0 ≤ x1 ∧ x1 < wN w 1
  · rw [xText_t g hX c0, if_neg (by decide)]
    by_cases c1 : 0 ≤ x2 ∧ x2 ≤ 3
    · rw [xPiece_t c1, if_neg (by decide)]
      by_cases c2 : 0 ≤ x3 ∧ x3 ≤ 120
      · rw [pwithin_t c2, if_neg (by decide)]
        by_cases c3 : 0 ≤ x4 ∧ x4 ≤ 1
        · rw [pwithin_t c3, if_pos (by decide)]
          exact absurd (by grind) c
        · rw [pwithin_f c3, if_neg (by decide)]
      · rw [pwithin_f c2, if_pos rfl]
    · rw [xPiece_f c1, if_pos rfl]
  · rw [xText_f g hX c0, if_pos rfl]
theorem nM_head {w : Wd} {σ : Zm} (g : GI w) (hM : MI w σ) (x1 x2 x3 x4 : Int) (c : ¬ ((0 ≤ x1 ∧ x1 < wN w 1) ∧ (0 ≤ x2 ∧ x2 ≤ 3) ∧ (0 ≤ x3 ∧ x3 ≤ 120) ∧ (0 ≤ x4 ∧ x4 ≤ 1))) : fM_head σ x1 x2 x3 x4 = some ((-1), σ) := by
  unfold fM_head
  by_cases c0 : 0 ≤ x1 ∧ x1 < wN w 1
  · rw [mText_t g hM c0, if_neg (by decide)]
    by_cases c1 : 0 ≤ x2 ∧ x2 ≤ 3
    · rw [mPiece_t c1, if_neg (by decide)]
      by_cases c2 : 0 ≤ x3 ∧ x3 ≤ 120
      · rw [mIn_t c2, if_neg (by decide)]
        by_cases c3 : 0 ≤ x4 ∧ x4 ≤ 1
        · rw [mIn_t c3, if_pos (by decide)]
          exact absurd (by grind) c
        · rw [mIn_f c3, if_neg (by decide)]
      · rw [mIn_f c2, if_pos rfl]
    · rw [mPiece_f c1, if_pos rfl]
  · rw [mText_f g hM c0, if_pos rfl]
theorem st_head (x1 x2 x3 x4 : Int) : St (fun σ => fX_head σ x1 x2 x3 x4) (fun σ => fM_head σ x1 x2 x3 x4) := by
  intro σ h
  have hI := h
  obtain ⟨w, p, g, gp, hX, hM, hXT, hMP⟩ := h
  by_cases c : (0 ≤ x1 ∧ x1 < wN w 1) ∧ (0 ≤ x2 ∧ x2 ≤ 3) ∧ (0 ≤ x3 ∧ x3 ≤ 120) ∧ (0 ≤ x4 ∧ x4 ≤ 1)
  · obtain ⟨c1, c2, c3, c4⟩ := c
    have hn := (GI_n g).2.1
    obtain ⟨x, rfl, hx⟩ := nat_of (x := x1) (n := 6) (by omega)
    obtain ⟨y, rfl, hy⟩ := nat_of (x := x2) (n := 4) (by omega)
    have hT := wTl hX hx c1.2
    show zwp (fX_head σ (x : Int) (y : Int) x3 x4) _
    unfold fX_head
    rw [xText_t g hX c1, if_neg (by decide), xPiece_t c2, if_neg (by decide), pwithin_t c3, if_neg (by decide), pwithin_t c4, if_pos (by decide)]
    refine pX_head_43 g hy _ _ x3 c3 σ hX.1.1 _ _ (fun r σ1 f1 l1 r1 => ?_) 4 5000 0 1 σ (by omega) (by omega) zfo.rf (fun k hk => by omega) ⟨Or.inr rfl, fun _ v hv => by omega, fun _ => rfl⟩
    have g1 : zfo scX σ σ1 := zIn f1 (fun q z => by unfold oOv at z; unfold scX; omega)
    have mk : ∀ (σ2 : Zm) (z : Int), zfo scX σ σ2 → (∀ r2 σ3, hin (wV w) y x3 4 r2 → mok x (wT w x) (wN w 0) (OV (wV w) y x3) σ3 → zwp (if ¬ x4 = 0 then if r2 = 0 then some ((-1), σ3) else zbi (fM_judge σ3 (x : Int) 0 (-1)) fun v31 σ30 => some (v31, σ30) else if r2 = 0 then some (0, σ3) else some (1, σ3)) (fun r4 σ4 => zg oMJ σ3 σ4 ∧ z = r4)) → zwp (fM_head σ2 (x : Int) (y : Int) x3 x4) (fun r2 σ3 => z = r2 ∧ Inv σ3) := by
      intro σ2 z f2 hF
      have hM2 := MI_sX hM f2
      unfold fM_head
      rw [mText_t g hM2 c1, if_neg (by decide), mPiece_t c2, if_neg (by decide), mIn_t c3, if_neg (by decide), mIn_t c4, if_pos (by decide), zwp_bv]
      refine zwp_mono (qM_clearSheet σ2) (fun _ σ3 ⟨f3, b3⟩ => ?_)
      have hM3 : MI w σ3 := MI_fo hM2 f3 (by unfold oSh; omega) (by unfold oSh; omega) (by unfold oSh; omega)
      refine pM_head_47 g hy _ _ x3 c3 σ3 hM3.1.1 _ _ (fun r2 σ4 f4 b4 h4 => ?_) 4 5000 0 1 σ3 (by omega) (by omega) zfo.rf (MV_cg b3 (fun i hi => ?_)) ⟨Or.inr rfl, fun _ v hv => by omega, fun _ => rfl⟩
      · have hM4 : MI w σ4 := MI_fo hM3 f4 (by unfold oSh; omega) (by unfold oSh; omega) (by unfold oSh; omega)
        refine zwp_mono (hF r2 σ4 h4 (mJok g hM4 hx c1.2 b4 (fun v _ => lov_sm (g.1.1 _) c3))) (fun r4 σ5 ⟨g5, e5⟩ => ⟨e5, Inv_sc hI f2 ((f3.tr f4).mono (fun q z => by unfold oSh at z; unfold scM; omega) |>.tr (g5.1.mono (fun q z => by unfold oMJ at z; unfold scM; omega))) (fun k a b => ?_)⟩)
        rw [g5.2 k (by omega), f4.rd (by unfold oSh; omega), f3.rd (by unfold oSh; omega)]
      · funext t
        unfold HA
        rw [if_neg (by omega)]
        rfl
    have hrr : ∀ r2, hin (wV w) y x3 4 r2 → (r2 = 0 ↔ r = 0) := by
      intro r2 h2
      have e : (∀ v, v < 4 → loc (wV w (4 * y + v)) x3 32 = 1) ↔ (∀ v, v < 4 → loc (wV w (4 * y + (3 - v))) x3 32 = 1) := by
        constructor
        · intro q v hv
          exact q (3 - v) (by omega)
        · intro q v hv
          have := q (3 - v) (by omega)
          rw [show 3 - (3 - v) = v by omega] at this
          exact this
      have a1 := h2.1
      have a2 := r1.1
      have a3 : r2 = 1 ↔ r = 1 := h2.2.trans (e.trans r1.2.symm)
      omega
    by_cases d : x4 = 0
    · rw [if_pos d]
      unfold fX_head_109
      rw [if_pos (by omega)]
      by_cases d1 : r = 0
      · rw [if_pos d1, zwp_some]
        refine mk σ1 0 g1 (fun r2 σ3 h2 m3 => ?_)
        rw [ifnn d, if_pos ((hrr r2 h2).2 d1), zwp_some]
        exact ⟨zg.rf, rfl⟩
      · rw [if_neg d1, zwp_some]
        refine mk σ1 1 g1 (fun r2 σ3 h2 m3 => ?_)
        rw [ifnn d, if_neg (fun q => d1 ((hrr r2 h2).1 q)), zwp_some]
        exact ⟨zg.rf, rfl⟩
    · rw [if_neg d]
      by_cases d1 : r = 0
      · rw [ifnn d1]
        unfold fX_head_109
        rw [if_neg (by omega), zwp_some]
        refine mk σ1 (-1) g1 (fun r2 σ3 h2 m3 => ?_)
        rw [if_pos d, if_pos ((hrr r2 h2).2 d1), zwp_some]
        exact ⟨zg.rf, rfl⟩
      · obtain ⟨ru1, ru2⟩ := ru_R hx
        have n0 := (GI_n g).1
        rw [if_pos d1, zwp_let, f1.rd (by unfold oOv; omega), hX.1.2.2.1]
        obtain ⟨σ2, e2, f2, b3, b4, b5, b6⟩ := qJ_begin (J := 153) σ1 (wN w 0) (-1) n0 rfl
        have fJ : zfo (oJ 153) σ1 σ2 := f2.mono (fun q z => Or.inl z)
        have h224 : zLN 224 = 4 := (by decide +kernel)
        rw [zbv_eq e2, zckj (by omega) (by omega), Int.toNat_natCast, ru2, zwp_bv]
        have f12 : zfo (fun q => oOv q ∨ oO 153 q) σ σ2 := (f1.mono (fun q z => Or.inl z)).tr (f2.mono (fun q z => Or.inr z))
        have hok : pok 153 (225 + 6 * x) (wT w x) (wN w 0) 224 0 (OV (wV w) y x3) σ2 := by
          refine ⟨⟨ru1.2.2, ru_J ru1 (by omega), TRc_fo f12 (fun j hj => by unfold oOv oO; omega) (hX.2.2 x hx c1.2), g.2.2.2 x hx c1.2, b3, n0.1, n0.2⟩, by omega, fun v hv => ?_⟩
          obtain ⟨a1, a2⟩ := oL_q hv
          rw [Nat.zero_add, a1]
          refine ⟨a2, by unfold oJ; omega, by unfold oJ; omega, ?_, lov_sm (g.1.1 _) c3⟩
          rw [ln_fo f2 (oO_ne (by omega)) (oO_ne (by omega))]
          exact l1 v hv
        refine zwp_mono (qJ_askPiece hok 0 (by omega)) (fun _ σ3 ⟨g1', g2, g3, g4⟩ => ?_)
        have g23 : zfo scX σ σ3 := (g1.tr (zIn fJ (fun q z => oJ_sc z))).tr (zIn g1' (fun q z => oJ_sc z))
        have hl := g4 [] ⟨by rw [b5]; rfl, by rw [b6]; rfl, fun _ k b hk => by simp at hk⟩
        rw [zwp_let, zwp_some, hl.2.1]
        refine mk σ3 _ g23 (fun r2 σ4 h2 m4 => ?_)
        rw [if_pos d, if_neg (fun q => d1 ((hrr r2 h2).1 q)), zwp_bi]
        refine zwp_mono (qM_judge m4 0 (by omega) (-1) rfl) (fun u σ5 ⟨f5, k5, l5, e5, e6⟩ => ?_)
        rw [zwp_some, e6, zw_w]
        exact ⟨⟨f5, fun k hk => k5 k (by omega) (by omega) (by omega)⟩, rfl⟩
  · exact St_neg hI (nX_head g hX x1 x2 x3 x4 c) (nM_head g hM x1 x2 x3 x4 c)

/-! MY OWN: what the reference learns -/
theorem qM_held12 (σ : Zm) (x : Int) : fM_held12 σ x = some (pc12 x, σ) := by
  unfold fM_held12 pc12
  by_cases c1 : -12 ≤ x
  · rw [if_pos c1]
    by_cases c2 : x ≤ 12
    · rw [if_pos c2]
      refine congrArg some (Prod.ext ?_ rfl)
      show x = _
      omega
    · rw [if_neg c2]
      refine congrArg some (Prod.ext ?_ rfl)
      show (12 : Int) = _
      omega
  · rw [if_neg c1]
    refine congrArg some (Prod.ext ?_ rfl)
    show (-12 : Int) = _
    omega
def MT (σ : Zm) (A : Nat → Nat) (n : Nat) (B : Nat → Nat → Nat) : Prop := (∀ s, s < 25 → zrd σ 287 s = (A s : Int)) ∧ zrd σ 273 38 = (n : Int) ∧ ∀ b s, b < 25 → s < 25 → zrd σ 288 (25 * b + s) = (B b s : Int)
def oML (q : Nat) : Prop := q = 273 ∨ q = 287 ∨ q = 288
/-- fields of the reference but one stay -/
def k38 (σ σ' : Zm) : Prop := ∀ k, k ≠ 38 → zrd σ' 273 k = zrd σ 273 k
theorem k38.rf {σ : Zm} : k38 σ σ := fun _ _ => rfl
theorem k38.tr {σ σ1 σ2 : Zm} (h : k38 σ σ1) (h2 : k38 σ1 σ2) : k38 σ σ2 := fun k q => (h2 k q).trans (h k q)
theorem k38_fo {D : Nat → Prop} {σ σ1 : Zm} (h : zfo D σ σ1) (hD : ¬ D 273) : k38 σ σ1 := fun k _ => h.rd hD k
def sidx (a : Ln) (t : Nat) : Int := if 0 ≤ lna a (lna a t).toNat then stp a (lna a t).toNat + 12 else -1
def aidx (a : Ln) (t : Nat) : Int := if 0 ≤ lna a t then (a (lna a t).toNat).2 else -1
theorem sidx_pst {a : Ln} {t : Nat} {b : Nat} (hb : b < 25) : sidx a t = (b : Int) ↔ pst a t = (b : Int) - 12 := by
  have := stp_bd a (lna a t).toNat
  unfold sidx pst
  by_cases c : 0 ≤ lna a (lna a t).toNat
  · rw [if_pos c, if_pos c]; omega
  · rw [if_neg c, if_neg c]; omega
theorem pM_learnPiece_20 {A : Nat → Ln} {v : Nat} (hv : v < 4) (h60 : ∀ t, 0 ≤ (A v t).2 ∧ (A v t).2 ≤ 60) (σ0 : Zm) (hMV : MV A σ0) (As : Nat → Nat) (n : Nat) (B : Nat → Nat → Nat) (hA : ∀ s, As s ≤ 100000) (hB : ∀ b s, B b s ≤ 100000) (hn : n ≤ 100000) (P : Int → Zm → Prop) (K : Int → Zm → Zr)
  (hK : ∀ σ', zfo oML σ0 σ' → k38 σ0 σ' → MT σ' (fun s => As s + cs (A v) ((s : Int) - 12) 32) (n + ca (A v) 32) (fun b s => B b s + cb (A v) ((b : Int) - 12) ((s : Int) - 12) 32) → zwp (K (v : Int) σ') P) : ∀ (d m t : Nat) (σ : Zm), d < m → t + d = 32 → zfo oML σ0 σ → k38 σ0 σ → MT σ (fun s => As s + cs (A v) ((s : Int) - 12) t) (n + ca (A v) t) (fun b s => B b s + cb (A v) ((b : Int) - 12) ((s : Int) - 12) t) → zwp (fM_learnPiece_20 m (v : Int) (aidx (A v) t) (sidx (A v) t) (t : Int) σ K) P
  | 0, m + 1, t, σ, _, ht, hf, hk, hT => by
    rw [fM_learnPiece_20]
    simp only [zwp_let]
    have : t = 32 := by omega
    subst this
    rw [if_pos (by omega)]
    exact hK σ hf hk hT
  | d + 1, m + 1, t, σ, hm, ht, hf, hk, hT => by
    obtain ⟨n1, n2, n3⟩ := lna_lt (A v) t
    have b1 := h60 t
    have b2 := h60 (lna (A v) t).toNat
    have hle := fun b s => cs_le (A v) b s t
    have mv1 : ∀ τ, zfo oML σ0 τ → MV A τ := fun τ f => MV_fo hMV f (by unfold oML; omega) (by unfold oML; omega)
    have ez : zw ((t : Int) + 1) = ((t + 1 : Nat) : Int) := zwj (by omega) (by omega)
    have hcs : ∀ s, cs (A v) s (t + 1) = if ((A v t).1 = 1 ∧ 0 ≤ lna (A v) t) ∧ stp (A v) t = s then cs (A v) s t + 1 else cs (A v) s t := fun s => rfl
    have hca : ca (A v) (t + 1) = if (A v t).1 = 1 ∧ 0 ≤ lna (A v) t then ca (A v) t + 1 else ca (A v) t := rfl
    have hcb : ∀ b s, cb (A v) b s (t + 1) = if ((A v t).1 = 1 ∧ 0 ≤ lna (A v) t) ∧ pst (A v) t = b ∧ stp (A v) t = s then cb (A v) b s t + 1 else cb (A v) b s t := fun b s => rfl
    have go := pM_learnPiece_20 hv h60 σ0 hMV As n B hA hB hn P K hK d m (t + 1)
    obtain ⟨q1, q2, q3⟩ := hT
    have q1 : ∀ s, s < 25 → zrd σ 287 s = ((As s + cs (A v) ((s : Int) - 12) t : Nat) : Int) := q1
    have q3 : ∀ b s, b < 25 → s < 25 → zrd σ 288 (25 * b + s) = ((B b s + cb (A v) ((b : Int) - 12) ((s : Int) - 12) t : Nat) : Int) := q3
    rw [fM_learnPiece_20]
    simp only [zwp_let]
    rw [if_neg (by omega), zwp_bi, qM_beginsAt (mv1 σ hf) hv t (by omega), zwp_some, ite01_w, ez]
    by_cases c1 : (A v t).1 = 1
    · have l1 : lna (A v) (t + 1) = (t : Int) := by rw [lna_succ, if_pos c1]
      have a1 : aidx (A v) (t + 1) = (A v t).2 := by unfold aidx; rw [l1, Int.toNat_natCast, if_pos (by omega)]
      rw [if_pos c1, if_pos (by decide)]
      have hpit : ∀ τ, zfo oML σ0 τ → fM_pitchAt τ (v : Int) (t : Int) = some ((A v t).2, τ) := fun τ f => qM_pitchAt (mv1 τ f) hv t (by omega) (by rw [c1]; decide)
      by_cases c2 : 0 ≤ lna (A v) t
      · have e2 : aidx (A v) t = (A v (lna (A v) t).toNat).2 := by unfold aidx; rw [if_pos c2]
        have s1 : sidx (A v) (t + 1) = stp (A v) t + 12 := by
          unfold sidx
          rw [l1, Int.toNat_natCast, if_pos c2]
        have hs := stp_bd (A v) t
        have hst : pc12 ((A v t).2 - (A v (lna (A v) t).toNat).2) = stp (A v) t := rfl
        obtain ⟨i, hi⟩ : ∃ i : Nat, stp (A v) t + 12 = (i : Int) := ⟨(stp (A v) t + 12).toNat, by omega⟩
        rw [if_neg (by rw [e2]; omega), zwp_bi, hpit σ hf, zwp_some, zwj (a := (A v t).2) (by omega) (by omega), e2, zwj (a := (A v t).2 - (A v (lna (A v) t).toNat).2) (by omega) (by omega), zwp_bi, qM_held12, zwp_some, hst, zwj (a := stp (A v) t) (by omega) (by omega), zwp_let, zwj (a := stp (A v) t + 12) (by omega) (by omega), hi, zckj (by omega) (by omega), zwp_let, zckj (by omega) (by omega), Int.toNat_natCast, q1 i (by omega)]
        have l0 := hle 0 ((i : Int) - 12)
        have as0 := hA i
        refine zwp_st (fun σ1 f1 v1 => ?_)
        rw [zwp_let, f1.rd (oO_ne (by omega)), q2]
        refine zwp_st (fun σ2 f2 v2 => ?_)
        have f12 : zfo oML σ σ2 := (f1.mono (fun q h => by unfold oO at h; unfold oML; omega)).tr (f2.mono (fun q h => by unfold oO at h; unfold oML; omega))
        have kk2 : k38 σ σ2 := fun k hk => by rw [v2, if_neg hk, f1.rd (oO_ne (by omega))]
        have V1 : ∀ s, s < 25 → zrd σ2 287 s = ((As s + cs (A v) ((s : Int) - 12) (t + 1) : Nat) : Int) := by
          intro s hs2
          have ls := hle 0 ((s : Int) - 12)
          have as := hA s
          rw [f2.rd (oO_ne (by omega)), v1, hcs]
          by_cases c : s = i
          · rw [if_pos c, if_pos ⟨⟨c1, c2⟩, by omega⟩, c, zwj (by omega) (by omega)]; omega
          · rw [if_neg c, if_neg (fun q => c (by omega)), q1 s hs2]
        have V2 : zrd σ2 273 38 = ((n + ca (A v) (t + 1) : Nat) : Int) := by
          rw [v2, if_pos rfl, hca, if_pos ⟨c1, c2⟩, zwj (by omega) (by omega)]; omega
        have W2 : ∀ j, zrd σ2 288 j = zrd σ 288 j := fun j => by rw [f2.rd (oO_ne (by omega)), f1.rd (oO_ne (by omega))]
        rw [a1, s1, hi] at go
        by_cases c3 : sidx (A v) t < 0
        · rw [if_pos c3, zwp_bi, hpit σ2 (hf.tr f12), zwp_some, zwj (a := (A v t).2) (by omega) (by omega)]
          refine go σ2 (by omega) (by omega) (hf.tr f12) (hk.tr kk2) ⟨V1, V2, fun b s hb hs2 => ?_⟩
          show _ = ((B b s + cb (A v) ((b : Int) - 12) ((s : Int) - 12) (t + 1) : Nat) : Int)
          rw [W2, hcb, if_neg (fun q => by have := (sidx_pst hb).mpr q.2.1; omega), q3 b s hb hs2]
        · have hsb : sidx (A v) t ≤ 24 := by
            unfold sidx
            have := stp_bd (A v) (lna (A v) t).toNat
            split <;> omega
          obtain ⟨j, hj⟩ : ∃ j : Nat, sidx (A v) t = (j : Int) := ⟨(sidx (A v) t).toNat, by omega⟩
          have bj := hB j i
          have lj := hle ((j : Int) - 12) ((i : Int) - 12)
          rw [if_neg c3, hj, show zw (25 * (j : Int) + (i : Int)) = ((25 * j + i : Nat) : Int) by rw [zwj (by omega) (by omega)]; omega, zckj (by omega) (by omega), zwp_let, zckj (by omega) (by omega), Int.toNat_natCast, W2, q3 j i (by omega) (by omega)]
          refine zwp_st (fun σ3 f3 v3 => ?_)
          have f13 : zfo oML σ σ3 := f12.tr (f3.mono (fun q h => by unfold oO at h; unfold oML; omega))
          rw [zwp_bi, hpit σ3 (hf.tr f13), zwp_some, zwj (a := (A v t).2) (by omega) (by omega)]
          refine go σ3 (by omega) (by omega) (hf.tr f13) ((hk.tr kk2).tr (k38_fo f3 (oO_ne (by omega)))) ⟨fun s hs2 => by rw [f3.rd (oO_ne (by omega))]; exact V1 s hs2, by rw [f3.rd (oO_ne (by omega))]; exact V2, fun b s hb hs2 => ?_⟩
          show _ = ((B b s + cb (A v) ((b : Int) - 12) ((s : Int) - 12) (t + 1) : Nat) : Int)
          have bs := hB b s
          have ls := hle ((b : Int) - 12) ((s : Int) - 12)
          rw [v3, hcb]
          by_cases c : b = j ∧ s = i
          · rw [if_pos (by omega), if_pos ⟨⟨c1, c2⟩, (sidx_pst hb).mp (by omega), by omega⟩, c.1, c.2, zwj (by omega) (by omega)]; omega
          · rw [if_neg (by omega), if_neg (fun q => c ⟨by have := (sidx_pst hb).mpr q.2.1; omega, by omega⟩), W2, q3 b s hb hs2]
      · have e2 : aidx (A v) t = -1 := by unfold aidx; rw [if_neg c2]
        have s0 : sidx (A v) (t + 1) = sidx (A v) t := by
          unfold sidx
          rw [l1, Int.toNat_natCast, if_neg c2, show (lna (A v) t).toNat = 0 by omega, if_neg (show ¬ 0 ≤ lna (A v) 0 from by show ¬ (0 : Int) ≤ -1; decide)]
        rw [e2, if_pos (by decide), zwp_bi, hpit σ hf, zwp_some, zwj (a := (A v t).2) (by omega) (by omega)]
        rw [a1, s0] at go
        have h0 : ∀ q : Prop, ¬ (((A v t).1 = 1 ∧ 0 ≤ lna (A v) t) ∧ q) := fun q h => c2 h.1.2
        refine go σ (by omega) (by omega) hf hk ⟨fun s hs => ?_, ?_, fun b s hb hs => ?_⟩
        · show _ = ((As s + cs (A v) ((s : Int) - 12) (t + 1) : Nat) : Int)
          rw [hcs, if_neg (h0 _), q1 s hs]
        · rw [hca, if_neg (fun h => c2 h.2), q2]
        · show _ = ((B b s + cb (A v) ((b : Int) - 12) ((s : Int) - 12) (t + 1) : Nat) : Int)
          rw [hcb, if_neg (h0 _), q3 b s hb hs]
    · have l1 : lna (A v) (t + 1) = lna (A v) t := by rw [lna_succ, if_neg c1]
      have a1 : aidx (A v) (t + 1) = aidx (A v) t := by unfold aidx; rw [l1]
      have s1 : sidx (A v) (t + 1) = sidx (A v) t := by unfold sidx; rw [l1]
      rw [if_neg c1, ifnn rfl]
      rw [a1, s1] at go
      have h0 : ∀ q : Prop, ¬ (((A v t).1 = 1 ∧ 0 ≤ lna (A v) t) ∧ q) := fun q h => c1 h.1.1
      refine go σ (by omega) (by omega) hf hk ⟨fun s hs => ?_, ?_, fun b s hb hs => ?_⟩
      · show _ = ((As s + cs (A v) ((s : Int) - 12) (t + 1) : Nat) : Int)
        rw [hcs, if_neg (h0 _), q1 s hs]
      · rw [hca, if_neg (fun h => c1 h.1), q2]
      · show _ = ((B b s + cb (A v) ((b : Int) - 12) ((s : Int) - 12) (t + 1) : Nat) : Int)
        rw [hcb, if_neg (h0 _), q3 b s hb hs]
/-- sums over the first i voices of a set -/
def mts (V : Nat → Ln) (set i : Nat) (σ : Zm) : Prop := MT σ (fun s => Sm (fun i => cs (V i) ((s : Int) - 12) 32) set i) (Sm (fun i => ca (V i) 32) set i) (fun b s => Sm (fun i => cb (V i) ((b : Int) - 12) ((s : Int) - 12) 32) set i)
def oMLp (q : Nat) : Prop := oML q ∨ oSh q
theorem pM_learnPiece_7 {V : Nat → Ln} (hV : ∀ i, vok 0 60 32 (V i)) (p : Nat) (hp : p < 4) (set : Nat) (hset : set / 2 ^ p % 2 = 1) (σ0 : Zm) (hMV : MV (fun v => V (4 * p + v)) σ0) : ∀ (d m v : Nat) (σ : Zm), d < m → v + d = 4 → zfo oML σ0 σ → k38 σ0 σ → mts V set (4 * p + v) σ → zwp (fM_learnPiece_7 m (v : Int) σ) (fun _ σ' => zfo oML σ0 σ' ∧ k38 σ0 σ' ∧ mts V set (4 * p + 4) σ')
  | 0, m + 1, v, σ, _, hv, hf, hk, hT => by
    rw [fM_learnPiece_7]
    simp only [zwp_let]
    have : v = 4 := by omega
    subst this
    rw [if_pos (by omega), zwp_some]
    exact ⟨hf, hk, hT⟩
  | d + 1, m + 1, v, σ, hm, hv, hf, hk, hT => by
    have e1 : ∀ g : Nat → Nat, Sm g set (4 * p + v + 1) = Sm g set (4 * p + v) + g (4 * p + v) := by
      intro g
      show (if set / 2 ^ ((4 * p + v) / 4) % 2 = 1 then Sm g set (4 * p + v) + g (4 * p + v) else Sm g set (4 * p + v)) = _
      rw [show (4 * p + v) / 4 = p by omega, if_pos hset]
    have hle : ∀ b s j, cs (V j) s 32 ≤ 32 ∧ ca (V j) 32 ≤ 32 ∧ cb (V j) b s 32 ≤ 32 ∧ cba (V j) b 32 ≤ 32 := fun b s j => cs_le (V j) b s 32
    have k1 : ∀ s : Nat, Sm (fun i => cs (V i) ((s : Int) - 12) 32) set (4 * p + v) ≤ 32 * (4 * p + v) := fun s => Sm_le _ set (fun j => (hle 0 _ j).1) _
    have k2 : Sm (fun i => ca (V i) 32) set (4 * p + v) ≤ 32 * (4 * p + v) := Sm_le _ set (fun j => (hle 0 0 j).2.1) _
    have k3 : ∀ b s : Nat, Sm (fun i => cb (V i) ((b : Int) - 12) ((s : Int) - 12) 32) set (4 * p + v) ≤ 32 * (4 * p + v) := fun b s => Sm_le _ set (fun j => (hle _ _ j).2.2.1) _
    rw [fM_learnPiece_7]
    simp only [zwp_let]
    rw [if_neg (by omega)]
    have := pM_learnPiece_20 (A := fun v => V (4 * p + v)) (v := v) (by omega) (vok_60 (hV _)) σ (MV_fo hMV hf (by unfold oML; omega) (by unfold oML; omega)) (fun s => Sm (fun i => cs (V i) ((s : Int) - 12) 32) set (4 * p + v)) (Sm (fun i => ca (V i) 32) set (4 * p + v)) (fun b s => Sm (fun i => cb (V i) ((b : Int) - 12) ((s : Int) - 12) 32) set (4 * p + v)) (fun s => by have := k1 s; omega) (fun b s => by have := k3 b s; omega) (by omega) (fun _ σ' => zfo oML σ0 σ' ∧ k38 σ0 σ' ∧ mts V set (4 * p + 4) σ') (fun y22 σ21 => fM_learnPiece_7 m (zw (y22 + 1)) σ21) (fun σ' f' k' t' => ?_) 32 5000 0 σ (by omega) (by omega) zfo.rf k38.rf hT
    · exact this
    · rw [show zw ((v : Int) + 1) = ((v + 1 : Nat) : Int) from zwj (by omega) (by omega)]
      refine pM_learnPiece_7 hV p hp set hset σ0 hMV d m (v + 1) σ' (by omega) (by omega) (hf.tr f') (hk.tr k') ?_
      unfold mts
      rw [show 4 * p + (v + 1) = 4 * p + v + 1 by omega]
      simp only [e1]
      exact t'
theorem pM_learn_6 {V : Nat → Ln} (hV : ∀ i, vok 0 60 32 (V i)) (set : Nat) (hs : set < 16) (σ0 : Zm) (hM : MSv 274 σ0 V) : ∀ (d m p : Nat) (σ : Zm), d < m → p + d = 4 → zfo oMLp σ0 σ → k38 σ0 σ → mts V set (4 * p) σ → zwp (fM_learn_6 m (set : Int) (p : Int) σ) (fun _ σ' => zfo oMLp σ0 σ' ∧ k38 σ0 σ' ∧ mts V set 16 σ')
  | 0, m + 1, p, σ, _, hp, hf, hk, hT => by
    rw [fM_learn_6]
    simp only [zwp_let]
    have : p = 4 := by omega
    subst this
    rw [if_pos (by omega), zwp_some]
    exact ⟨hf, hk, hT⟩
  | d + 1, m + 1, p, σ, hm, hp, hf, hk, hT => by
    have ez : zw ((p : Int) + 1) = ((p + 1 : Nat) : Int) := zwj (by omega) (by omega)
    rw [fM_learn_6]
    simp only [zwp_let]
    rw [if_neg (by omega), zbit (by omega) (by omega), ez]
    by_cases c : set / 2 ^ p % 2 = 1
    · rw [if_neg (by omega), zwp_bv]
      unfold fM_learnPiece
      rw [zwp_bv]
      have hM1 : MSv 274 σ V := fun i t hi ht => by rw [hf.rd (by unfold oMLp oML oSh; omega)]; exact hM i t hi ht
      refine zwp_mono (qM_layPiece hV p (by omega) σ hM1) (fun r σ1 ⟨f1, v1⟩ => ?_)
      have hT1 : mts V set (4 * p + 0) σ1 := by
        obtain ⟨t1, t2, t3⟩ := hT
        refine ⟨fun s hs => ?_, ?_, fun b s hb hs => ?_⟩
        · rw [f1.rd (by omega)]; exact t1 s hs
        · rw [f1.rd (by omega)]; exact t2
        · rw [f1.rd (by omega)]; exact t3 b s hb hs
      refine zwp_mono (pM_learnPiece_7 hV p (by omega) set c σ1 v1 4 5000 0 σ1 (by omega) (by omega) zfo.rf k38.rf hT1) (fun r σ2 ⟨f2, k2, t2⟩ => ?_)
      refine pM_learn_6 hV set hs σ0 hM d m (p + 1) σ2 (by omega) (by omega) ((hf.tr (f1.mono (fun q z => Or.inr z))).tr (f2.mono (fun q z => Or.inl z))) ((hk.tr (k38_fo f1 (by omega))).tr k2) ?_
      rw [show 4 * (p + 1) = 4 * p + 4 by omega]
      exact t2
    · rw [if_pos (by omega)]
      refine pM_learn_6 hV set hs σ0 hM d m (p + 1) σ (by omega) (by omega) hf hk ?_
      have e1 : ∀ g : Nat → Nat, Sm g set (4 * p + 4) = Sm g set (4 * p) := by
        intro g
        have e : ∀ j, j < 4 → Sm g set (4 * p + j + 1) = Sm g set (4 * p + j) := by
          intro j hj
          show (if set / 2 ^ ((4 * p + j) / 4) % 2 = 1 then _ else Sm g set (4 * p + j)) = _
          rw [show (4 * p + j) / 4 = p by omega, if_neg c]
        exact (e 3 (by omega)).trans ((e 2 (by omega)).trans ((e 1 (by omega)).trans (e 0 (by omega))))
      unfold mts at hT ⊢
      rw [show 4 * (p + 1) = 4 * p + 4 by omega]
      simp only [e1]
      exact hT
def mlr (V : Nat → Ln) (set : Nat) (σ : Zm) : Prop := MT σ (fun s => Cs V set ((s : Int) - 12)) (Ca V set) (fun b s => Cb V set ((b : Int) - 12) ((s : Int) - 12))
theorem qM_learn {V : Nat → Ln} (hV : ∀ i, vok 0 60 32 (V i)) (set : Nat) (hs : set < 16) (σ : Zm) (hM : MSv 274 σ V) : zwp (fM_learn σ (set : Int)) (fun _ σ' => zfo oMLp σ σ' ∧ k38 σ σ' ∧ mlr V set σ') := by
  have l28 : ∀ (σ0 : Zm) (d m j : Nat) (τ : Zm), d < m → j + d = 625 → zfo (oO 288) σ0 τ → (∀ k, k < j → zrd τ 288 k = 0) → zwp (fM_forget_28 m (j : Int) τ) (fun _ τ' => zfo (oO 288) σ0 τ' ∧ ∀ k, k < 625 → zrd τ' 288 k = 0) := by
    intro σ0 d
    induction d with
    | zero =>
      intro m j τ hm hj hf hv
      obtain ⟨m, rfl⟩ : ∃ y, m = y + 1 := ⟨m - 1, by omega⟩
      rw [fM_forget_28]
      simp only [zwp_let]
      rw [if_pos (by omega), zwp_some]
      exact ⟨hf, fun k hk => hv k (by omega)⟩
    | succ d ih =>
      intro m j τ hm hj hf hv
      obtain ⟨m, rfl⟩ : ∃ y, m = y + 1 := ⟨m - 1, by omega⟩
      rw [fM_forget_28]
      simp only [zwp_let]
      rw [if_neg (by omega), zckj (by omega) (by omega), Int.toNat_natCast, show zw ((j : Int) + 1) = ((j + 1 : Nat) : Int) from zwj (by omega) (by omega)]
      refine zwp_st (fun τ1 f1 v1 => ih m (j + 1) τ1 (by omega) (by omega) (hf.tr f1) (fun k hk => ?_))
      rw [v1]
      by_cases c : k = j
      · rw [if_pos c]; decide
      · rw [if_neg c]; exact hv k (by omega)
  have l7 : ∀ (σ0 : Zm) (P : Int → Zm → Prop) (K : Zm → Zr), (∀ τ', zfo (oO 287) σ0 τ' → (∀ k, k < 25 → zrd τ' 287 k = 0) → zwp (K τ') P) → ∀ (d m j : Nat) (τ : Zm), d < m → j + d = 25 → zfo (oO 287) σ0 τ → (∀ k, k < j → zrd τ 287 k = 0) → zwp (fM_forget_7 m (j : Int) τ K) P := by
    intro σ0 P K hK d
    induction d with
    | zero =>
      intro m j τ hm hj hf hv
      obtain ⟨m, rfl⟩ : ∃ y, m = y + 1 := ⟨m - 1, by omega⟩
      rw [fM_forget_7]
      simp only [zwp_let]
      rw [if_pos (by omega)]
      exact hK τ hf (fun k hk => hv k (by omega))
    | succ d ih =>
      intro m j τ hm hj hf hv
      obtain ⟨m, rfl⟩ : ∃ y, m = y + 1 := ⟨m - 1, by omega⟩
      rw [fM_forget_7]
      simp only [zwp_let]
      rw [if_neg (by omega), zckj (by omega) (by omega), Int.toNat_natCast, show zw ((j : Int) + 1) = ((j + 1 : Nat) : Int) from zwj (by omega) (by omega)]
      refine zwp_st (fun τ1 f1 v1 => ih m (j + 1) τ1 (by omega) (by omega) (hf.tr f1) (fun k hk => ?_))
      rw [v1]
      by_cases c : k = j
      · rw [if_pos c]; decide
      · rw [if_neg c]; exact hv k (by omega)
  unfold fM_learn fM_forget
  rw [zwp_bv]
  refine zwp_st (fun σ1 f1 v1 => ?_)
  refine l7 σ1 _ _ (fun σ2 f2 v2 => ?_) 25 5000 0 σ1 (by omega) (by omega) zfo.rf (fun k hk => by omega)
  refine zwp_mono (l28 σ2 625 5000 0 σ2 (by omega) (by omega) zfo.rf (fun k hk => by omega)) (fun r σ3 ⟨f3, v3⟩ => ?_)
  have fo : zfo oMLp σ σ3 := ((f1.mono (fun q z => by unfold oO at z; unfold oMLp oML; omega)).tr (f2.mono (fun q z => by unfold oO at z; unfold oMLp oML; omega))).tr (f3.mono (fun q z => by unfold oO at z; unfold oMLp oML; omega))
  have kk : k38 σ σ3 := fun k hk => by rw [f3.rd (oO_ne (by omega)), f2.rd (oO_ne (by omega)), v1, if_neg hk]
  refine zwp_mono (pM_learn_6 hV set hs σ3 (fun i t hi ht => by rw [fo.rd (by unfold oMLp oML oSh; omega)]; exact hM i t hi ht) 4 5000 0 σ3 (by omega) (by omega) zfo.rf k38.rf ⟨fun s hs => ?_, ?_, fun b s hb hs => ?_⟩) (fun r σ4 ⟨f4, k4, t4⟩ => ⟨fo.tr f4, kk.tr k4, t4⟩)
  · rw [f3.rd (oO_ne (by omega)), v2 s hs]; rfl
  · rw [f3.rd (oO_ne (by omega)), f2.rd (oO_ne (by omega)), v1, if_pos rfl]; rfl
  · rw [v3 _ (by omega)]; rfl

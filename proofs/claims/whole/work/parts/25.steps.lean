/-! MY OWN: the class's Steps -/
theorem zbit {s k : Nat} (hs : s < 256) (hk : k < 8) : zand (zshr (s : Int) (k : Int)) 1 = ((s / 2 ^ k % 2 : Nat) : Int) := by
  have h : ∀ s : Nat, s < 256 → ∀ k : Nat, k < 8 → zand (zshr (s : Int) (k : Int)) 1 = ((s / 2 ^ k % 2 : Nat) : Int) := by decide +kernel
  exact h s hs k hk
def stp (a : Ln) (t : Nat) : Int := pc12 ((a t).2 - (a (lna a t).toNat).2)
def pst (a : Ln) (t : Nat) : Int := if 0 ≤ lna a (lna a t).toNat then stp a (lna a t).toNat else 100
def cs (a : Ln) (s : Int) : Nat → Nat
  | 0 => 0
  | t + 1 => if ((a t).1 = 1 ∧ 0 ≤ lna a t) ∧ stp a t = s then cs a s t + 1 else cs a s t
def ca (a : Ln) : Nat → Nat
  | 0 => 0
  | t + 1 => if (a t).1 = 1 ∧ 0 ≤ lna a t then ca a t + 1 else ca a t
def cb (a : Ln) (b s : Int) : Nat → Nat
  | 0 => 0
  | t + 1 => if ((a t).1 = 1 ∧ 0 ≤ lna a t) ∧ pst a t = b ∧ stp a t = s then cb a b s t + 1 else cb a b s t
def cba (a : Ln) (b : Int) : Nat → Nat
  | 0 => 0
  | t + 1 => if ((a t).1 = 1 ∧ 0 ≤ lna a t) ∧ pst a t = b then cba a b t + 1 else cba a b t
theorem cs_le (a : Ln) (b s : Int) : ∀ t, cs a s t ≤ t ∧ ca a t ≤ t ∧ cb a b s t ≤ t ∧ cba a b t ≤ t
  | 0 => by simp [cs, ca, cb, cba]
  | t + 1 => by
    have := cs_le a b s t
    unfold cs ca cb cba
    refine ⟨?_, ?_, ?_, ?_⟩ <;> split <;> omega
def STo (o : Nat) (σ : Zm) (A : Nat → Nat) (n : Nat) (B : Nat → Nat) (m : Nat) : Prop := (∀ s, s < 25 → zrd σ (o + 1) s = (A s : Int)) ∧ zrd σ o 2 = (n : Int) ∧ (∀ s, s < 25 → zrd σ (o + 2) s = (B s : Int)) ∧ zrd σ o 3 = (m : Int)
def oT (o q : Nat) : Prop := o ≤ q ∧ q ≤ o + 2
theorem stp_bd (a : Ln) (t : Nat) : -12 ≤ stp a t ∧ stp a t ≤ 12 := by
  unfold stp pc12
  omega
theorem lna_succ (a : Ln) (t : Nat) : lna a (t + 1) = if (a t).1 = 1 then (t : Int) else lna a t := rfl
theorem pT_add_9 {o p : Nat} (ho : p + 2 < o ∨ o + 2 < p) (hp : zli 32 p) {a : Ln} (b : Int) (hb : -12 ≤ b ∧ b ≤ 101) (σ0 : Zm) (hl : ln 32 σ0 p = a) (hsm : lsm a) (A : Nat → Nat) (n : Nat) (B : Nat → Nat) (m : Nat) (hA : ∀ s, A s ≤ 100000) (hB : ∀ s, B s ≤ 100000) (hn : n ≤ 100000) (hm : m ≤ 100000) : ∀ (d f t : Nat) (σ : Zm), d < f → t + d = 32 → zfo (oT o) σ0 σ → STo o σ (fun s => A s + cs a ((s : Int) - 12) t) (n + ca a t) (fun s => B s + cb a b ((s : Int) - 12) t) (m + cba a b t) → zwp (fT_add_9 f o p b (pst a t) (lna a t) (t : Int) σ) (fun _ σ' => zfo (oT o) σ0 σ' ∧ STo o σ' (fun s => A s + cs a ((s : Int) - 12) 32) (n + ca a 32) (fun s => B s + cb a b ((s : Int) - 12) 32) (m + cba a b 32))
  | 0, f + 1, t, σ, _, ht, hf, hS => by
    rw [fT_add_9]
    simp only [zwp_let]
    rw [hp.2, if_pos (by omega), zwp_some]
    have : t = 32 := by omega
    subst this
    exact ⟨hf, hS⟩
  | d + 1, f + 1, t, σ, hd, ht, hf, hS => by
    have z1 := hp.1
    have z2 := hp.2
    obtain ⟨n1, n2, n3⟩ := lna_lt a t
    have b1 := hsm t
    have b2 := hsm (lna a t).toNat
    have hle := cs_le a b
    have ela : ln 32 σ p = a := by rw [ln_fo hf (by unfold oT; omega) (by unfold oT; omega)]; exact hl
    have k1 : (a t).1 = zrd σ (p + 2) t := by rw [← ela]; exact ln_1 (by omega)
    have pv : ∀ x : Nat, x < 32 → (a x).1 = 1 → zrd σ (p + 1) x = (a x).2 := by
      intro x hx h
      rw [← ela] at h ⊢
      rw [ln_1 hx] at h
      exact (ln_2 hx (by rw [h]; decide)).symm
    have ez : zw ((t : Int) + 1) = ((t + 1 : Nat) : Int) := zwj (by omega) (by omega)
    have hcs : ∀ s, cs a s (t + 1) = if ((a t).1 = 1 ∧ 0 ≤ lna a t) ∧ stp a t = s then cs a s t + 1 else cs a s t := fun s => rfl
    have hca : ca a (t + 1) = if (a t).1 = 1 ∧ 0 ≤ lna a t then ca a t + 1 else ca a t := rfl
    have hcb : ∀ s, cb a b s (t + 1) = if ((a t).1 = 1 ∧ 0 ≤ lna a t) ∧ pst a t = b ∧ stp a t = s then cb a b s t + 1 else cb a b s t := fun s => rfl
    have hcba : cba a b (t + 1) = if ((a t).1 = 1 ∧ 0 ≤ lna a t) ∧ pst a t = b then cba a b t + 1 else cba a b t := rfl
    have go := pT_add_9 ho hp b hb σ0 hl hsm A n B m hA hB hn hm d f (t + 1)
    rw [fT_add_9]
    simp only [zwp_let]
    rw [if_neg (by omega), zckj (by omega) (by omega), zwp_let, Int.toNat_natCast, ← k1, ez]
    by_cases c1 : (a t).1 = 1
    · have l1 : lna a (t + 1) = (t : Int) := by rw [lna_succ, if_pos c1]
      rw [if_pos c1]
      by_cases c2 : 0 ≤ lna a t
      · have p1 : pst a (t + 1) = stp a t := by
          unfold pst
          rw [l1, Int.toNat_natCast, if_pos c2]
        have hs := stp_bd a t
        rw [if_neg (by omega), zckj (by omega) (by omega), zwp_let, zckj (by omega) (by omega), zwp_let, pv t (by omega) c1, pv _ (by omega) (n3 c2), zwj (a := (a t).2 - (a (lna a t).toNat).2) (by omega) (by omega), zwp_bi, pX_boundedStep, zwp_some]
        have hst : pc12 ((a t).2 - (a (lna a t).toNat).2) = stp a t := rfl
        have ei : zw (stp a t + 12) = ((stp a t + 12).toNat : Int) := by rw [zwj (by omega) (by omega)]; omega
        rw [hst, zwj (a := stp a t) (by omega) (by omega), ei, zckj (by omega) (by omega), zwp_let, zckj (by omega) (by omega), Int.toNat_natCast]
        obtain ⟨q1, q2, q3, q4⟩ := hS
        have q1 : ∀ s, s < 25 → zrd σ (o + 1) s = ((A s + cs a ((s : Int) - 12) t : Nat) : Int) := q1
        have q3 : ∀ s, s < 25 → zrd σ (o + 2) s = ((B s + cb a b ((s : Int) - 12) t : Nat) : Int) := q3
        have l0 := hle (((stp a t + 12).toNat : Int) - 12) t
        have a0 := hA (stp a t + 12).toNat
        have a1 := hB (stp a t + 12).toNat
        rw [q1 _ (by omega)]
        refine zwp_st (fun σ1 f1 v1 => ?_)
        rw [zwp_let, f1.rd (oO_ne (by omega)), q2]
        refine zwp_st (fun σ2 f2 v2 => ?_)
        have f12 : zfo (oT o) σ σ2 := (f1.mono (fun q h => by unfold oO at h; unfold oT; omega)).tr (f2.mono (fun q h => by unfold oO at h; unfold oT; omega))
        have V1 : ∀ s, s < 25 → zrd σ2 (o + 1) s = ((A s + cs a ((s : Int) - 12) (t + 1) : Nat) : Int) := by
          intro s hs2
          have ls := hle ((s : Int) - 12) t
          rw [f2.rd (oO_ne (by omega)), v1, hcs]
          have as := hA s
          by_cases c : s = (stp a t + 12).toNat
          · rw [if_pos c, if_pos ⟨⟨c1, c2⟩, by omega⟩, c, zwj (by omega) (by omega)]; omega
          · rw [if_neg c, if_neg (fun q => c (by omega)), q1 s hs2]
        have V2 : zrd σ2 o 2 = ((n + ca a (t + 1) : Nat) : Int) := by
          rw [v2, if_pos rfl, hca, if_pos ⟨c1, c2⟩, zwj (by omega) (by omega)]; omega
        have W2 : ∀ s, zrd σ2 (o + 2) s = zrd σ (o + 2) s := fun s => by rw [f2.rd (oO_ne (by omega)), f1.rd (oO_ne (by omega))]
        have W3 : zrd σ2 o 3 = zrd σ o 3 := by rw [v2, if_neg (by omega), f1.rd (oO_ne (by omega))]
        rw [p1, l1] at go
        by_cases c3 : pst a t = b
        · rw [ifnn c3, zckj (by omega) (by omega), zwp_let, zckj (by omega) (by omega), W2, q3 _ (by omega)]
          refine zwp_st (fun σ3 f3 v3 => ?_)
          rw [zwp_let, f3.rd (oO_ne (by omega)), W3, q4]
          refine zwp_st (fun σ4 f4 v4 => ?_)
          refine go σ4 (by omega) (by omega) ((hf.tr f12).tr ((f3.mono (fun q h => by unfold oO at h; unfold oT; omega)).tr (f4.mono (fun q h => by unfold oO at h; unfold oT; omega)))) ⟨fun s hs2 => ?_, ?_, fun s hs2 => ?_, ?_⟩
          · rw [f4.rd (oO_ne (by omega)), f3.rd (oO_ne (by omega)), V1 s hs2]
          · rw [v4, if_neg (by omega), f3.rd (oO_ne (by omega)), V2]
          · have ls := hle ((s : Int) - 12) t
            show _ = ((B s + cb a b ((s : Int) - 12) (t + 1) : Nat) : Int)
            rw [f4.rd (oO_ne (by omega)), v3, hcb, W2]
            have as := hB s
            by_cases c : s = (stp a t + 12).toNat
            · rw [if_pos c, if_pos ⟨⟨c1, c2⟩, c3, by omega⟩, c, zwj (by omega) (by omega)]; omega
            · rw [if_neg c, if_neg (fun q => c (by omega)), q3 s hs2]
          · rw [v4, if_pos rfl, hcba, if_pos ⟨⟨c1, c2⟩, c3⟩, zwj (by omega) (by omega)]; omega
        · rw [if_pos c3]
          refine go σ2 (by omega) (by omega) (hf.tr f12) ⟨V1, V2, fun s hs2 => ?_, ?_⟩
          · show _ = ((B s + cb a b ((s : Int) - 12) (t + 1) : Nat) : Int)
            rw [W2, hcb, if_neg (fun q => c3 q.2.1), q3 s hs2]
          · rw [W3, hcba, if_neg (fun q => c3 q.2), q4]
      · have p1 : pst a (t + 1) = pst a t := by
          unfold pst
          rw [l1, Int.toNat_natCast, if_neg c2, show (lna a t).toNat = 0 by omega, if_neg (show ¬ 0 ≤ lna a 0 from by show ¬ (0 : Int) ≤ -1; decide)]
        rw [if_pos (by omega)]
        rw [p1, l1] at go
        refine go σ (by omega) (by omega) hf ?_
        have h0 : ∀ q : Prop, ¬ (((a t).1 = 1 ∧ 0 ≤ lna a t) ∧ q) := fun q h => c2 h.1.2
        obtain ⟨q1, q2, q3, q4⟩ := hS
        have q1 : ∀ s, s < 25 → zrd σ (o + 1) s = ((A s + cs a ((s : Int) - 12) t : Nat) : Int) := q1
        have q3 : ∀ s, s < 25 → zrd σ (o + 2) s = ((B s + cb a b ((s : Int) - 12) t : Nat) : Int) := q3
        refine ⟨fun s hs => ?_, ?_, fun s hs => ?_, ?_⟩
        · show _ = ((A s + cs a ((s : Int) - 12) (t + 1) : Nat) : Int)
          rw [hcs, if_neg (h0 _), q1 s hs]
        · rw [hca, if_neg (fun h => c2 h.2), q2]
        · show _ = ((B s + cb a b ((s : Int) - 12) (t + 1) : Nat) : Int)
          rw [hcb, if_neg (h0 _), q3 s hs]
        · rw [hcba, if_neg (h0 _), q4]
    · have l1 : lna a (t + 1) = lna a t := by rw [lna_succ, if_neg c1]
      have p1 : pst a (t + 1) = pst a t := by unfold pst; rw [l1]
      rw [if_neg c1]
      rw [p1, l1] at go
      refine go σ (by omega) (by omega) hf ?_
      have h0 : ∀ q : Prop, ¬ (((a t).1 = 1 ∧ 0 ≤ lna a t) ∧ q) := fun q h => c1 h.1.1
      obtain ⟨q1, q2, q3, q4⟩ := hS
      have q1 : ∀ s, s < 25 → zrd σ (o + 1) s = ((A s + cs a ((s : Int) - 12) t : Nat) : Int) := q1
      have q3 : ∀ s, s < 25 → zrd σ (o + 2) s = ((B s + cb a b ((s : Int) - 12) t : Nat) : Int) := q3
      refine ⟨fun s hs => ?_, ?_, fun s hs => ?_, ?_⟩
      · show _ = ((A s + cs a ((s : Int) - 12) (t + 1) : Nat) : Int)
        rw [hcs, if_neg (h0 _), q1 s hs]
      · rw [hca, if_neg (fun h => c1 h.1), q2]
      · show _ = ((B s + cb a b ((s : Int) - 12) (t + 1) : Nat) : Int)
        rw [hcb, if_neg (h0 _), q3 s hs]
      · rw [hcba, if_neg (h0 _), q4]
def Sm (f : Nat → Nat) (set : Nat) : Nat → Nat
  | 0 => 0
  | i + 1 => if set / 2 ^ (i / 4) % 2 = 1 then Sm f set i + f i else Sm f set i
def Cs (V : Nat → Ln) (set : Nat) (s : Int) : Nat := Sm (fun i => cs (V i) s 32) set 16
def Ca (V : Nat → Ln) (set : Nat) : Nat := Sm (fun i => ca (V i) 32) set 16
def Cb (V : Nat → Ln) (set : Nat) (b s : Int) : Nat := Sm (fun i => cb (V i) b s 32) set 16
def Cba (V : Nat → Ln) (set : Nat) (b : Int) : Nat := Sm (fun i => cba (V i) b 32) set 16
theorem Sm_le (f : Nat → Nat) (set : Nat) (hf : ∀ i, f i ≤ 32) : ∀ i, Sm f set i ≤ 32 * i
  | 0 => by simp [Sm]
  | i + 1 => by
    have := Sm_le f set hf i
    have := hf i
    unfold Sm
    split <;> omega
/-- what learn has left behind -/
def lrn (o : Nat) (V : Nat → Ln) (set : Nat) (b : Int) (σ : Zm) : Prop := STo o σ (fun s => Cs V set ((s : Int) - 12)) (Ca V set) (fun s => Cb V set b ((s : Int) - 12)) (Cba V set b)
theorem pX_learn_7 {o : Nat} (ho : o = 218 ∨ o = 221) (V : Nat → Ln) (set : Nat) (hs : set < 16) (b : Int) (hb : -12 ≤ b ∧ b ≤ 101) (σ0 : Zm) (hV : XV 1 σ0 V) (hsm : ∀ i, i < 16 → lsm (V i)) : ∀ (d f i : Nat) (σ : Zm), d < f → i + d = 16 → zfo (oT o) σ0 σ → STo o σ (fun s => Sm (fun i => cs (V i) ((s : Int) - 12) 32) set i) (Sm (fun i => ca (V i) 32) set i) (fun s => Sm (fun i => cb (V i) b ((s : Int) - 12) 32) set i) (Sm (fun i => cba (V i) b 32) set i) → zwp (fX_learn_7 f o (set : Int) b (i : Int) σ) (fun _ σ' => zfo (oT o) σ0 σ' ∧ lrn o V set b σ')
  | 0, f + 1, i, σ, _, hi, hf, hS => by
    rw [fX_learn_7]
    simp only [zwp_let]
    rw [if_pos (by omega), zwp_some]
    have : i = 16 := by omega
    subst this
    exact ⟨hf, hS⟩
  | d + 1, f + 1, i, σ, hd, hi, hf, hS => by
    obtain ⟨a1, a2⟩ := so_voice (o := 1) (Or.inl rfl) i (by omega)
    rw [fX_learn_7]
    simp only [zwp_let]
    rw [if_neg (by omega), show Int.tdiv (i : Int) 4 = ((i / 4 : Nat) : Int) from rfl, zbit (by omega) (by omega), show zw ((i : Int) + 1) = ((i + 1 : Nat) : Int) from zwj (by omega) (by omega)]
    have e1 : ∀ g : Nat → Nat, Sm g set (i + 1) = if set / 2 ^ (i / 4) % 2 = 1 then Sm g set i + g i else Sm g set i := fun g => rfl
    by_cases c : set / 2 ^ (i / 4) % 2 = 1
    · rw [if_neg (by omega), zckj (by omega) (by omega), zwp_bv, Int.toNat_natCast, a1]
      have hl : ln 32 σ (1 + 8 + 3 * i) = V i := by
        rw [ln_fo hf (by unfold oT; omega) (by unfold oT; omega)]
        exact (hV i (by omega)).1
      have hle : ∀ s j, cs (V j) s 32 ≤ 32 ∧ ca (V j) 32 ≤ 32 ∧ cb (V j) b s 32 ≤ 32 ∧ cba (V j) b 32 ≤ 32 := fun s j => cs_le (V j) b s 32
      have q1 : ∀ s : Nat, Sm (fun i => cs (V i) ((s : Int) - 12) 32) set i ≤ 32 * i := fun s => Sm_le _ set (fun j => (hle _ j).1) i
      have q2 : Sm (fun i => ca (V i) 32) set i ≤ 32 * i := Sm_le _ set (fun j => (hle 0 j).2.1) i
      have q3 : ∀ s : Nat, Sm (fun i => cb (V i) b ((s : Int) - 12) 32) set i ≤ 32 * i := fun s => Sm_le _ set (fun j => (hle _ j).2.2.1) i
      have q4 : Sm (fun i => cba (V i) b 32) set i ≤ 32 * i := Sm_le _ set (fun j => (hle 0 j).2.2.2) i
      have := pT_add_9 (o := o) (p := 1 + 8 + 3 * i) (by omega) a2 b hb σ hl (hsm i (by omega)) (fun s => Sm (fun i => cs (V i) ((s : Int) - 12) 32) set i) (Sm (fun i => ca (V i) 32) set i) (fun s => Sm (fun i => cb (V i) b ((s : Int) - 12) 32) set i) (Sm (fun i => cba (V i) b 32) set i) (fun s => by have := q1 s; omega) (fun s => by have := q3 s; omega) (by omega) (by omega) 32 5000 0 σ (by omega) (by omega) zfo.rf hS
      unfold fT_add
      refine zwp_mono this (fun r σ1 ⟨g1, g2⟩ => ?_)
      refine pX_learn_7 ho V set hs b hb σ0 hV hsm d f (i + 1) σ1 (by omega) (by omega) (hf.tr g1) ?_
      simp only [e1, if_pos c]
      exact g2
    · rw [if_pos (by omega)]
      refine pX_learn_7 ho V set hs b hb σ0 hV hsm d f (i + 1) σ (by omega) (by omega) hf ?_
      simp only [e1, if_neg c]
      exact hS
theorem zwp_fl {σ : Zm} {o : Nat} {v : Int} {F : Zm → Zr} {P : Int → Zm → Prop} (hl : zLN o < 5000) (h : ∀ σ', zfo (oO o) σ σ' → (∀ j, j < zLN o → zrd σ' o j = zw v) → zwp (F σ') P) : zwp (zbv (fJ7_fill_53178 σ o v) F) P := by
  rw [zbv_eq (qJ7_fill σ o v hl)]
  refine h _ (zfo.rf.fl rfl) (fun j hj => ?_)
  rw [zrd_fl, if_pos ⟨rfl, hj⟩]
theorem qX_learn {o : Nat} (ho : o = 218 ∨ o = 221) (V : Nat → Ln) (set : Nat) (hs : set < 16) (b : Int) (hb : -12 ≤ b ∧ b ≤ 101) (σ : Zm) (hV : XV 1 σ V) (hsm : ∀ i, i < 16 → lsm (V i)) : zwp (fX_learn σ o (set : Int) b) (fun _ σ' => zfo (oT o) σ σ' ∧ lrn o V set b σ') := by
  have hz : zLN (o + 1) = 25 ∧ zLN (o + 2) = 25 := by rcases ho with rfl | rfl <;> decide +kernel
  unfold fX_learn fT_clear
  rw [zwp_bv]
  refine zwp_fl (by omega) (fun σ1 f1 v1 => ?_)
  refine zwp_fl (by omega) (fun σ2 f2 v2 => ?_)
  refine zwp_st (fun σ3 f3 v3 => ?_)
  refine zwp_st (fun σ4 f4 v4 => ?_)
  rw [zwp_some]
  have ff : zfo (oT o) σ σ4 := (((f1.mono (fun q h => by unfold oO at h; unfold oT; omega)).tr (f2.mono (fun q h => by unfold oO at h; unfold oT; omega))).tr (f3.mono (fun q h => by unfold oO at h; unfold oT; omega))).tr (f4.mono (fun q h => by unfold oO at h; unfold oT; omega))
  refine zwp_mono (pX_learn_7 ho V set hs b hb σ4 (XV_fo hV ff (fun q h1 h2 => by unfold oT; omega)) hsm 16 5000 0 σ4 (by omega) (by omega) zfo.rf ⟨fun s h => ?_, ?_, fun s h => ?_, ?_⟩) (fun r σ' ⟨g1, g2⟩ => ⟨ff.tr g1, g2⟩)
  · rw [f4.rd (oO_ne (by omega)), f3.rd (oO_ne (by omega)), f2.rd (oO_ne (by omega)), v1 s (by omega)]; rfl
  · rw [v4, if_neg (by omega), v3, if_pos rfl]; rfl
  · rw [f4.rd (oO_ne (by omega)), f3.rd (oO_ne (by omega)), v2 s (by omega)]; rfl
  · rw [v4, if_pos rfl]; rfl

/-! MY OWN: follows, never, endings -/
theorem sumn_add (f h : Nat → Nat) : ∀ n, sumn (fun k => f k + h k) n = sumn f n + sumn h n
  | 0 => rfl
  | n + 1 => by
    have := sumn_add f h n
    show sumn (fun k => f k + h k) n + (f n + h n) = (sumn f n + f n) + (sumn h n + h n)
    omega
theorem sumn_0 : ∀ n, sumn (fun _ => 0) n = 0
  | 0 => rfl
  | n + 1 => by
    show sumn (fun _ => 0) n + 0 = 0
    rw [sumn_0 n]
theorem sumn_one (j : Nat) : ∀ n, sumn (fun k => if k = j then 1 else 0) n = if j < n then 1 else 0
  | 0 => rfl
  | n + 1 => by
    show sumn (fun k => if k = j then 1 else 0) n + (if n = j then 1 else 0) = _
    rw [sumn_one j n]
    split <;> split <;> split <;> omega
theorem sumn_cg {f h : Nat → Nat} : ∀ n, (∀ k, k < n → f k = h k) → sumn f n = sumn h n
  | 0, _ => rfl
  | n + 1, q => by
    show sumn f n + f n = sumn h n + h n
    rw [sumn_cg n (fun k hk => q k (by omega)), q n (by omega)]
theorem cb_sum (a : Ln) (b : Int) : ∀ t, sumn (fun k => cb a b ((k : Int) - 12) t) 25 = cba a b t
  | 0 => sumn_0 25
  | t + 1 => by
    have ih := cb_sum a b t
    have hst := stp_bd a t
    by_cases c : ((a t).1 = 1 ∧ 0 ≤ lna a t) ∧ pst a t = b
    · have e : ∀ k : Nat, k < 25 → cb a b ((k : Int) - 12) (t + 1) = cb a b ((k : Int) - 12) t + (if k = (stp a t + 12).toNat then 1 else 0) := by
        intro k hk
        show (if ((a t).1 = 1 ∧ 0 ≤ lna a t) ∧ pst a t = b ∧ stp a t = (k : Int) - 12 then _ else _) = _
        by_cases d : stp a t = (k : Int) - 12
        · rw [if_pos ⟨c.1, c.2, d⟩, if_pos (by omega)]
        · rw [if_neg (fun q => d q.2.2), if_neg (by omega)]; rfl
      rw [sumn_cg 25 e, sumn_add, ih, sumn_one, if_pos (by omega)]
      show _ = (if ((a t).1 = 1 ∧ 0 ≤ lna a t) ∧ pst a t = b then _ else _)
      rw [if_pos c]
    · have e : ∀ k : Nat, k < 25 → cb a b ((k : Int) - 12) (t + 1) = cb a b ((k : Int) - 12) t := by
        intro k hk
        show (if ((a t).1 = 1 ∧ 0 ≤ lna a t) ∧ pst a t = b ∧ stp a t = (k : Int) - 12 then _ else _) = _
        rw [if_neg (fun q => c ⟨q.1, q.2.1⟩)]
      rw [sumn_cg 25 e, ih]
      show _ = (if ((a t).1 = 1 ∧ 0 ≤ lna a t) ∧ pst a t = b then _ else _)
      rw [if_neg c]
theorem Sm_sum (f : Nat → Nat → Nat) (set : Nat) (n : Nat) : ∀ i, sumn (fun k => Sm (f k) set i) n = Sm (fun i => sumn (fun k => f k i) n) set i
  | 0 => sumn_0 n
  | i + 1 => by
    have ih := Sm_sum f set n i
    by_cases c : set / 2 ^ (i / 4) % 2 = 1
    · have e : ∀ k, k < n → Sm (f k) set (i + 1) = Sm (f k) set i + f k i := fun k _ => if_pos c
      rw [sumn_cg n e, sumn_add, ih]
      show _ = (if set / 2 ^ (i / 4) % 2 = 1 then _ else _)
      rw [if_pos c]
    · have e : ∀ k, k < n → Sm (f k) set (i + 1) = Sm (f k) set i := fun k _ => if_neg c
      rw [sumn_cg n e, ih]
      show _ = (if set / 2 ^ (i / 4) % 2 = 1 then _ else _)
      rw [if_neg c]
theorem Cb_sum (V : Nat → Ln) (set : Nat) (b : Int) : sumn (fun k => Cb V set b ((k : Int) - 12)) 25 = Cba V set b := by
  have := Sm_sum (fun k i => cb (V i) b ((k : Int) - 12) 32) set 25 16
  unfold Cb Cba
  rw [this]
  congr 1
  funext i
  exact cb_sum (V i) b 32
theorem xVo {w : Wd} {σ : Zm} (h : XV 1 σ (wV w)) {i : Nat} (hi : i < 16) : zRF 2 i = 9 + 3 * i ∧ zli 32 (9 + 3 * i) ∧ ln 32 σ (9 + 3 * i) = wV w i ∧ lz 32 σ (9 + 3 * i) := by
  obtain ⟨a1, a2⟩ := so_voice (o := 1) (Or.inl rfl) i hi
  have := h i hi
  rw [show 1 + 8 + 3 * i = 9 + 3 * i by omega] at a1 a2 this
  exact ⟨a1, a2, this.1, this.2⟩
theorem ln_p {n : Nat} {σ : Zm} {o : Nat} {a : Ln} (h : ln n σ o = a) {t : Nat} (ht : (a t).1 ≠ 0) : t < n ∧ zrd σ (o + 1) t = (a t).2 := by
  rw [← h] at ht ⊢
  unfold ln at ht ⊢
  by_cases c : t < n ∧ zrd σ (o + 2) t ≠ 0
  · simp only [if_pos c] at ht ⊢
    exact ⟨c.1, trivial⟩
  · simp only [if_neg c] at ht
    exact absurd rfl ht
theorem zvo {p v : Nat} (hp : p < 4) (hv : v < 4) : zw ((p : Int) * 4 + (v : Int)) = ((4 * p + v : Nat) : Int) := by rw [zwj (by omega) (by omega)]; omega
theorem pc12_bd (x : Int) : -12 ≤ pc12 x ∧ pc12 x ≤ 12 := by unfold pc12; omega
theorem pM_follows_111 (x4 x7 x8 : Int) (y : Nat) (hy : y < 25) (hx : x8 = (y : Int)) (B : Nat → Nat) (hB : ∀ s, B s ≤ 1000) (σ : Zm) (h0 : ∀ s, s < 25 → zrd σ 288 (25 * y + s) = (B s : Int)) (P : Int → Zm → Prop) (K : Int → Int → Int → Int → Zm → Zr) (hK : zwp (K x4 x7 x8 (sumn B 25 : Int) σ) P) : ∀ (d m s : Nat), d < m → s + d = 25 → zwp (fM_follows_111 m x4 x7 x8 (sumn B s : Int) (s : Int) σ K) P
  | 0, m + 1, s, _, hs => by
    have : s = 25 := by omega
    subst this
    rw [fM_follows_111]
    simp only [zwp_let]
    rw [if_pos (by decide)]
    exact hK
  | d + 1, m + 1, s, hm, hs => by
    have ih := pM_follows_111 x4 x7 x8 y hy hx B hB σ h0 P K hK d m (s + 1) (by omega) (by omega)
    have e : ((sumn B (s + 1) : Nat) : Int) = (sumn B s : Int) + (B s : Int) := by show ((sumn B s + B s : Nat) : Int) = _; omega
    have b1 := sumn_le hB s
    have b2 := hB s
    rw [fM_follows_111]
    simp only [zwp_let]
    rw [if_neg (by omega), show zw (25 * x8 + (s : Int)) = ((25 * y + s : Nat) : Int) by rw [hx, zwj (by omega) (by omega)]; omega, zckj (by omega) (by omega), zwp_let, zwp_let, Int.toNat_natCast, h0 s (by omega), show zw ((s : Int) + 1) = ((s + 1 : Nat) : Int) by rw [zwj (by omega) (by omega)]; omega, zwj (a := (sumn B s : Int) + (B s : Int)) (by omega) (by omega), ← e]
    exact ih
theorem nX_follows {w : Wd} {σ : Zm} (g : GI w) (hX : XI w σ) (x1 x2 x3 x4 : Int) (c : ¬ ((0 ≤ x1 ∧ x1 ≤ 15) ∧ (0 ≤ x2 ∧ x2 ≤ 3) ∧ (0 ≤ x3 ∧ x3 ≤ 3) ∧ (0 ≤ x4 ∧ x4 ≤ 60))) : fX_follows σ x1 x2 x3 x4 = some ((-1), σ) := by
  unfold fX_follows
  by_cases c0 : 0 ≤ x1 ∧ x1 ≤ 15
  · rw [xSet_t c0, if_neg (by decide)]
    by_cases c1 : 0 ≤ x2 ∧ x2 ≤ 3
    · rw [xPiece_t c1, if_neg (by decide)]
      by_cases c2 : 0 ≤ x3 ∧ x3 ≤ 3
      · rw [xVoice_t c2, if_neg (by decide)]
        by_cases c3 : 0 ≤ x4 ∧ x4 ≤ 60
        · rw [xPitch_t c3, if_pos (by decide)]
          exact absurd (by grind) c
        · rw [xPitch_f c3, if_neg (by decide)]
      · rw [xVoice_f c2, if_pos rfl]
    · rw [xPiece_f c1, if_pos rfl]
  · rw [xSet_f c0, if_pos rfl]
theorem nM_follows {w : Wd} {σ : Zm} (g : GI w) (hM : MI w σ) (x1 x2 x3 x4 : Int) (c : ¬ ((0 ≤ x1 ∧ x1 ≤ 15) ∧ (0 ≤ x2 ∧ x2 ≤ 3) ∧ (0 ≤ x3 ∧ x3 ≤ 3) ∧ (0 ≤ x4 ∧ x4 ≤ 60))) : fM_follows σ x1 x2 x3 x4 = some ((-1), σ) := by
  unfold fM_follows
  by_cases c0 : 0 ≤ x1 ∧ x1 ≤ 15
  · rw [mSet_t c0, if_neg (by decide)]
    by_cases c1 : 0 ≤ x2 ∧ x2 ≤ 3
    · rw [mPiece_t c1, if_neg (by decide)]
      by_cases c2 : 0 ≤ x3 ∧ x3 ≤ 3
      · rw [mVoice_t c2, if_neg (by decide)]
        by_cases c3 : 0 ≤ x4 ∧ x4 ≤ 60
        · rw [mIn_t c3, if_pos (by decide)]
          exact absurd (by grind) c
        · rw [mIn_f c3, if_neg (by decide)]
      · rw [mVoice_f c2, if_pos rfl]
    · rw [mPiece_f c1, if_pos rfl]
  · rw [mSet_f c0, if_pos rfl]
theorem st_follows (x1 x2 x3 x4 : Int) : St (fun σ => fX_follows σ x1 x2 x3 x4) (fun σ => fM_follows σ x1 x2 x3 x4) := by
  intro σ h
  have hI := h
  obtain ⟨w, p, g, gp, hX, hM, hXT, hMP⟩ := h
  by_cases c : (0 ≤ x1 ∧ x1 ≤ 15) ∧ (0 ≤ x2 ∧ x2 ≤ 3) ∧ (0 ≤ x3 ∧ x3 ≤ 3) ∧ (0 ≤ x4 ∧ x4 ≤ 60)
  · obtain ⟨c1, c2, c3, c4⟩ := c
    obtain ⟨x, rfl, hx⟩ := nat_of (x := x1) (n := 16) (by omega)
    obtain ⟨y, rfl, hy⟩ := nat_of (x := x2) (n := 4) (by omega)
    obtain ⟨v, rfl, hv⟩ := nat_of (x := x3) (n := 4) (by omega)
    obtain ⟨a1, a2, a3, a4⟩ := xVo hX.1.1 (show 4 * y + v < 16 by omega)
    have n1 := lna_lt (wV w (4 * y + v)) 32
    have n2 := lna_lt (wV w (4 * y + v)) (lna (wV w (4 * y + v)) 32).toNat
    have h60 := vok_60 (g.1.1 (4 * y + v))
    show zwp (fX_follows σ (x : Int) (y : Int) (v : Int) x4) _
    -- the reference, for both answers
    have mk : ∀ (σ1 : Zm) (r : Int), zfo scX σ σ1 → (∀ σ2, MI w σ1 → zfo scM σ1 σ2 → (∀ k, k ≤ 25 → zrd σ2 273 k = zrd σ1 273 k) → MV (fun v => wV w (4 * y + v)) σ2 → MI w σ2 → zwp (fM_follows_66 (x : Int) (v : Int) x4 (lna (wV w (4 * y + v)) 32) (if 0 ≤ lna (wV w (4 * y + v)) 32 then lna (wV w (4 * y + v)) (lna (wV w (4 * y + v)) 32).toNat else -1) σ2) (fun r2 σ3 => r = r2 ∧ Inv σ3)) → zwp (fM_follows σ1 (x : Int) (y : Int) (v : Int) x4) (fun r2 σ2 => r = r2 ∧ Inv σ2) := by
      intro σ1 r f1 hF
      have hM1 := MI_sX hM f1
      unfold fM_follows
      rw [mSet_t c1, if_neg (by decide), mPiece_t c2, if_neg (by decide), mVoice_t c3, if_neg (by decide), mIn_t c4, if_pos (by decide), zwp_bv]
      refine zwp_mono (qM_layPiece g.1.1 y hy σ1 hM1.1.1) (fun _ σ2 ⟨f2, b2⟩ => ?_)
      have h2 : MI w σ2 := MI_fo hM1 f2 (by omega) (by omega) (by omega)
      have hh := hF σ2 hM1 (f2.mono (fun q z => by unfold scM; omega)) (fun k _ => f2.rd (by omega) k) b2 h2
      have e1 : fM_beganAhead σ2 (v : Int) 32 = some (lna (wV w (4 * y + v)) 32, σ2) := qM_beganAhead b2 hv 32 (by omega)
      rw [zbi_eq e1, zwj (a := lna (wV w (4 * y + v)) 32) (by omega) (by omega)]
      by_cases d : 0 ≤ lna (wV w (4 * y + v)) 32
      · rw [if_pos d] at hh
        rw [if_pos d]
        obtain ⟨t, ht⟩ : ∃ t : Nat, lna (wV w (4 * y + v)) 32 = (t : Int) := ⟨_, (Int.toNat_of_nonneg d).symm⟩
        rw [ht] at hh n2 ⊢
        rw [Int.toNat_natCast] at hh n2
        rw [zbi_eq (qM_beganAhead b2 hv t (by omega)), zwj (a := lna (wV w (4 * y + v)) t) (by omega) (by omega)]
        exact hh
      · rw [if_neg d] at hh
        rw [if_neg d]
        exact hh
    unfold fX_follows
    rw [xSet_t c1, if_neg (by decide), xPiece_t c2, if_neg (by decide), xVoice_t c3, if_neg (by decide), xPitch_t c4, if_pos (by decide), zvo hy hv, zckj (by omega) (by omega), Int.toNat_natCast, a1, zbi_eq (qL_noteAhead a2 (by omega) σ 32 (by omega)), a3, show (32 : Int).toNat = 32 from rfl, zwj (a := lna (wV w (4 * y + v)) 32) (by omega) (by omega), zbi_eq (qL_noteAhead a2 (by omega) σ _ n1.1), a3, zwj (a := lna (wV w (4 * y + v)) (lna (wV w (4 * y + v)) 32).toNat) (by omega) (by omega)]
    by_cases d : lna (wV w (4 * y + v)) 32 < 0
    · rw [if_pos d, zwp_some]
      refine mk σ (-1) zfo.rf (fun σ2 _ f2 k2 b2 h2 => ?_)
      unfold fM_follows_66
      rw [if_neg (by rw [if_neg (by omega)]; decide), zwp_some]
      exact ⟨rfl, Inv_sc hI zfo.rf f2 (fun k a b => k2 k (by omega))⟩
    · obtain ⟨t, ht⟩ : ∃ t : Nat, lna (wV w (4 * y + v)) 32 = (t : Int) := ⟨_, (Int.toNat_of_nonneg (by omega)).symm⟩
      rw [if_neg d]
      rw [ht] at mk n1 n2 ⊢
      rw [if_pos (by omega)] at mk
      rw [Int.toNat_natCast] at mk n1 n2 ⊢
      by_cases d2 : 0 ≤ lna (wV w (4 * y + v)) t
      · obtain ⟨u, hu⟩ : ∃ u : Nat, lna (wV w (4 * y + v)) t = (u : Int) := ⟨_, (Int.toNat_of_nonneg d2).symm⟩
        rw [hu] at mk n2 ⊢
        rw [Int.toNat_natCast] at n2
        have s1 : (wV w (4 * y + v) t).1 = 1 := n1.2.2 (by omega)
        have s2 : (wV w (4 * y + v) u).1 = 1 := n2.2.2 (by omega)
        have q1 := (ln_p a3 (show (wV w (4 * y + v) t).1 ≠ 0 by omega)).2
        have q2 := (ln_p a3 (show (wV w (4 * y + v) u).1 ≠ 0 by omega)).2
        have p1 := h60 t
        have p2 := h60 u
        have hb := pc12_bd ((wV w (4 * y + v) t).2 - (wV w (4 * y + v) u).2)
        rw [if_pos (by omega), zckj (by omega) (by rw [a2.1]; omega), zwp_let, Int.toNat_natCast, q1, zckj (by omega) (by rw [a2.1]; omega), zwp_let, q2, zwj (a := (wV w (4 * y + v) t).2 - (wV w (4 * y + v) u).2) (by omega) (by omega), zbi_eq (pX_boundedStep σ _), zwj (a := pc12 _) (by omega) (by omega)]
        refine xLearn g hX.1.1 (Or.inl rfl) hx (by omega) (fun σ1 f1 h1 l1 => ?_)
        have g1 : zfo scX σ σ1 := zIn f1 (fun q z => oT_sc (Or.inl rfl) z)
        have hq := Cba_le (wV w) x (pc12 ((wV w (4 * y + v) t).2 - (wV w (4 * y + v) u).2))
        obtain ⟨bn, hbn⟩ : ∃ bn : Nat, pc12 ((wV w (4 * y + v) t).2 - (wV w (4 * y + v) u).2) = (bn : Int) - 12 := ⟨(pc12 ((wV w (4 * y + v) t).2 - (wV w (4 * y + v) u).2) + 12).toNat, by omega⟩
        have hb2 := pc12_bd (x4 - (wV w (4 * y + v) t).2)
        obtain ⟨sn, hsn⟩ : ∃ sn : Nat, pc12 (x4 - (wV w (4 * y + v) t).2) = (sn : Int) - 12 := ⟨(pc12 (x4 - (wV w (4 * y + v) t).2) + 12).toNat, by omega⟩
        have hqb := Cb_le (wV w) x ((bn : Int) - 12) ((sn : Int) - 12)
        rw [hbn] at l1 hq
        have key : ∀ r : Int, (r = if Cba (wV w) x ((bn : Int) - 12) = 0 then -1 else Int.tdiv ((1000 * Cb (wV w) x ((bn : Int) - 12) ((sn : Int) - 12) : Nat) : Int) (Cba (wV w) x ((bn : Int) - 12) : Int)) → zwp (fM_follows σ1 (x : Int) (y : Int) (v : Int) x4) (fun r2 σ2 => r = r2 ∧ Inv σ2) := by
          intro r hr
          refine mk σ1 r g1 (fun σ2 _ f2 k2 b2 h2 => ?_)
          unfold fM_follows_66
          rw [if_pos (by omega), zbi_eq (qM_pitchAt b2 hv t (by omega) (by omega)), zbi_eq (qM_pitchAt b2 hv u (by omega) (by omega)), zwj (a := (wV w (4 * y + v) t).2) (by omega) (by omega), zwj (a := (wV w (4 * y + v) u).2) (by omega) (by omega), zwj (a := (wV w (4 * y + v) t).2 - (wV w (4 * y + v) u).2) (by omega) (by omega), zbi_eq (qM_held12 σ2 _), hbn, zwj (a := (bn : Int) - 12) (by omega) (by omega), zwp_let, show zw ((bn : Int) - 12 + 12) = (bn : Int) by rw [zwj (by omega) (by omega)]; omega]
          refine mLearn g h2 hx (fun σ3 f3 k3 h3 l3 => ?_)
          have hI3 : Inv σ3 := Inv_sc hI g1 (f2.tr (f3.mono (fun q z => oMLp_sc z))) (fun k a b => by rw [k3 k (by omega), k2 k (by omega)])
          refine pM_follows_111 _ _ _ bn (by omega) rfl (fun s => Cb (wV w) x ((bn : Int) - 12) ((s : Int) - 12)) (fun s => Cb_le _ _ _ _) σ3 (fun s hs => l3.2.2 bn s (by omega) hs) _ _ ?_ 25 5000 0 (by omega) (by omega)
          rw [Cb_sum]
          by_cases d3 : Cba (wV w) x ((bn : Int) - 12) = 0
          · rw [if_pos d3] at hr
            rw [if_neg (by omega), zwp_some]
            exact ⟨hr, hI3⟩
          · rw [if_neg d3] at hr
            rw [if_pos (by omega), zwj (a := x4 - (wV w (4 * y + v) t).2) (by omega) (by omega), zbi_eq (qM_held12 σ3 _), hsn, zwj (a := (sn : Int) - 12) (by omega) (by omega), show zw (25 * (bn : Int) + ((sn : Int) - 12) + 12) = ((25 * bn + sn : Nat) : Int) by rw [zwj (by omega) (by omega)]; omega, zckj (by omega) (by omega), zwp_let, Int.toNat_natCast, l3.2.2 bn sn (by omega) (by omega), zwp_dv]
            refine ⟨by omega, ?_⟩
            rw [zwp_some, show zw (1000 * (Cb (wV w) x ((bn : Int) - 12) ((sn : Int) - 12) : Int)) = ((1000 * Cb (wV w) x ((bn : Int) - 12) ((sn : Int) - 12) : Nat) : Int) by rw [zwj (by omega) (by omega)]; omega]
            exact ⟨hr, hI3⟩
        rw [zwp_let, l1.2.2.2]
        by_cases d3 : Cba (wV w) x ((bn : Int) - 12) = 0
        · rw [if_neg (by omega), zwp_some]
          exact key _ (by rw [if_pos d3])
        · have a3' : zrd σ1 (9 + 3 * (4 * y + v) + 1) t = (wV w (4 * y + v) t).2 := by rw [f1.rd (by unfold oT; omega)]; exact q1
          rw [if_pos (by omega), zckj (by omega) (by rw [a2.1]; omega), zwp_let, a3', zwj (a := x4 - (wV w (4 * y + v) t).2) (by omega) (by omega), zbi_eq (pX_boundedStep σ1 _), hsn, zwj (a := (sn : Int) - 12) (by omega) (by omega), show zw ((sn : Int) - 12 + 12) = (sn : Int) by rw [zwj (by omega) (by omega)]; omega, zckj (by omega) (by omega), zwp_let, zwp_let, Int.toNat_natCast, l1.2.2.1 sn (by omega), l1.2.2.2, zwp_dv]
          refine ⟨by omega, ?_⟩
          rw [zwp_some, show zw (1000 * (Cb (wV w) x ((bn : Int) - 12) ((sn : Int) - 12) : Int)) = ((1000 * Cb (wV w) x ((bn : Int) - 12) ((sn : Int) - 12) : Nat) : Int) by rw [zwj (by omega) (by omega)]; omega]
          exact key _ (by rw [if_neg d3])
      · rw [if_neg d2, zwp_some]
        refine mk σ (-1) zfo.rf (fun σ2 _ f2 k2 b2 h2 => ?_)
        unfold fM_follows_66
        rw [if_neg d2, zwp_some]
        exact ⟨rfl, Inv_sc hI zfo.rf f2 (fun k a b => k2 k (by omega))⟩
  · exact St_neg hI (nX_follows g hX x1 x2 x3 x4 c) (nM_follows g hM x1 x2 x3 x4 c)
def nvr (V : Nat → Ln) (set : Nat) (q : Int) : Nat → Nat
  | 0 => 0
  | n + 1 => if Cs V set (pc12 ((n : Int) - q)) = 0 then nvr V set q n + 1 else nvr V set q n
theorem nvr_le (V : Nat → Ln) (set : Nat) (q : Int) : ∀ n, nvr V set q n ≤ n
  | 0 => Nat.le_refl _
  | n + 1 => by
    have := nvr_le V set q n
    unfold nvr
    split <;> omega
theorem pX_never_71 {V : Nat → Ln} {set o t : Nat} {q : Int} (hq : 0 ≤ q ∧ q ≤ 60) (ht : t < 32) (hz : zLN (o + 1) = 32) (σ : Zm) (hv : zrd σ (o + 1) t = q) (hl : ∀ s, s < 25 → zrd σ 219 s = (Cs V set ((s : Int) - 12) : Int)) : ∀ (d m n : Nat), d < m → n + d = 61 → fX_never_71 m o (t : Int) (nvr V set q n : Int) (n : Int) σ = some ((nvr V set q 61 : Int), σ)
  | 0, m + 1, n, _, hn => by
    have : n = 61 := by omega
    subst this
    rw [fX_never_71]
    dsimp only [zlet]
    rw [if_pos (by decide)]
  | d + 1, m + 1, n, hm, hn => by
    have ih := pX_never_71 hq ht hz σ hv hl d m (n + 1) (by omega) (by omega)
    have hb := pc12_bd ((n : Int) - q)
    have hnv := nvr_le V set q n
    obtain ⟨b, hbn⟩ : ∃ b : Nat, pc12 ((n : Int) - q) = (b : Int) - 12 := ⟨(pc12 ((n : Int) - q) + 12).toNat, by omega⟩
    have e : nvr V set q (n + 1) = if Cs V set (pc12 ((n : Int) - q)) = 0 then nvr V set q n + 1 else nvr V set q n := rfl
    rw [hbn] at e
    rw [fX_never_71]
    dsimp only [zlet]
    rw [if_neg (by omega), zckj (by omega) (by rw [hz]; omega), Int.toNat_natCast, hv, zwj (a := (n : Int) - q) (by omega) (by omega), zbi_eq (pX_boundedStep σ _), hbn, zwj (a := (b : Int) - 12) (by omega) (by omega), show zw ((b : Int) - 12 + 12) = (b : Int) by rw [zwj (by omega) (by omega)]; omega, zckj (by omega) (by omega), Int.toNat_natCast, hl b (by omega), show zw ((n : Int) + 1) = ((n + 1 : Nat) : Int) by rw [zwj (by omega) (by omega)]; omega, show zw ((nvr V set q n : Int) + 1) = ((nvr V set q n + 1 : Nat) : Int) by rw [zwj (by omega) (by omega)]; omega]
    by_cases c : Cs V set ((b : Int) - 12) = 0
    · rw [e, if_pos c] at ih
      rw [if_neg (by omega)]
      exact ih
    · rw [e, if_neg c] at ih
      rw [if_pos (by omega)]
      exact ih
theorem pM_never_64 {V : Nat → Ln} {set : Nat} {q : Int} (hq : 0 ≤ q ∧ q ≤ 60) (σ : Zm) (hl : ∀ s, s < 25 → zrd σ 287 s = (Cs V set ((s : Int) - 12) : Int)) : ∀ (d m n : Nat), d < m → n + d = 61 → fM_never_64 m q (nvr V set q n : Int) (n : Int) σ = some ((nvr V set q 61 : Int), σ)
  | 0, m + 1, n, _, hn => by
    have : n = 61 := by omega
    subst this
    rw [fM_never_64]
    dsimp only [zlet]
    rw [if_pos (by decide)]
  | d + 1, m + 1, n, hm, hn => by
    have ih := pM_never_64 hq σ hl d m (n + 1) (by omega) (by omega)
    have hb := pc12_bd ((n : Int) - q)
    have hnv := nvr_le V set q n
    obtain ⟨b, hbn⟩ : ∃ b : Nat, pc12 ((n : Int) - q) = (b : Int) - 12 := ⟨(pc12 ((n : Int) - q) + 12).toNat, by omega⟩
    have e : nvr V set q (n + 1) = if Cs V set (pc12 ((n : Int) - q)) = 0 then nvr V set q n + 1 else nvr V set q n := rfl
    rw [hbn] at e
    rw [fM_never_64]
    dsimp only [zlet]
    rw [if_neg (by omega), zwj (a := (n : Int) - q) (by omega) (by omega), zbi_eq (qM_held12 σ _), hbn, zwj (a := (b : Int) - 12) (by omega) (by omega), show zw ((b : Int) - 12 + 12) = (b : Int) by rw [zwj (by omega) (by omega)]; omega, zckj (by omega) (by omega), Int.toNat_natCast, hl b (by omega), show zw ((n : Int) + 1) = ((n + 1 : Nat) : Int) by rw [zwj (by omega) (by omega)]; omega, show zw ((nvr V set q n : Int) + 1) = ((nvr V set q n + 1 : Nat) : Int) by rw [zwj (by omega) (by omega)]; omega, Int.add_zero, zwj (a := (nvr V set q n : Int)) (by omega) (by omega)]
    by_cases c : Cs V set ((b : Int) - 12) = 0
    · rw [e, if_pos c] at ih
      rw [if_neg (by omega)]
      exact ih
    · rw [e, if_neg c] at ih
      rw [if_pos (by omega)]
      exact ih
theorem nX_never {w : Wd} {σ : Zm} (g : GI w) (hX : XI w σ) (x1 x2 x3 : Int) (c : ¬ ((0 ≤ x1 ∧ x1 ≤ 15) ∧ (0 ≤ x2 ∧ x2 ≤ 3) ∧ (0 ≤ x3 ∧ x3 ≤ 3))) : fX_never σ x1 x2 x3 = some ((-1), σ) := by
  unfold fX_never
  by_cases c0 : 0 ≤ x1 ∧ x1 ≤ 15
  · rw [xSet_t c0, if_neg (by decide)]
    by_cases c1 : 0 ≤ x2 ∧ x2 ≤ 3
    · rw [xPiece_t c1, if_neg (by decide)]
      by_cases c2 : 0 ≤ x3 ∧ x3 ≤ 3
      · rw [xVoice_t c2, if_pos (by decide)]
        exact absurd (by grind) c
      · rw [xVoice_f c2, if_neg (by decide)]
    · rw [xPiece_f c1, if_pos rfl]
  · rw [xSet_f c0, if_pos rfl]
theorem nM_never {w : Wd} {σ : Zm} (g : GI w) (hM : MI w σ) (x1 x2 x3 : Int) (c : ¬ ((0 ≤ x1 ∧ x1 ≤ 15) ∧ (0 ≤ x2 ∧ x2 ≤ 3) ∧ (0 ≤ x3 ∧ x3 ≤ 3))) : fM_never σ x1 x2 x3 = some ((-1), σ) := by
  unfold fM_never
  by_cases c0 : 0 ≤ x1 ∧ x1 ≤ 15
  · rw [mSet_t c0, if_neg (by decide)]
    by_cases c1 : 0 ≤ x2 ∧ x2 ≤ 3
    · rw [mPiece_t c1, if_neg (by decide)]
      by_cases c2 : 0 ≤ x3 ∧ x3 ≤ 3
      · rw [mVoice_t c2, if_pos (by decide)]
        exact absurd (by grind) c
      · rw [mVoice_f c2, if_neg (by decide)]
    · rw [mPiece_f c1, if_pos rfl]
  · rw [mSet_f c0, if_pos rfl]
theorem st_never (x1 x2 x3 : Int) : St (fun σ => fX_never σ x1 x2 x3) (fun σ => fM_never σ x1 x2 x3) := by
  intro σ h
  have hI := h
  obtain ⟨w, p, g, gp, hX, hM, hXT, hMP⟩ := h
  by_cases c : (0 ≤ x1 ∧ x1 ≤ 15) ∧ (0 ≤ x2 ∧ x2 ≤ 3) ∧ (0 ≤ x3 ∧ x3 ≤ 3)
  · obtain ⟨c1, c2, c3⟩ := c
    obtain ⟨x, rfl, hx⟩ := nat_of (x := x1) (n := 16) (by omega)
    obtain ⟨y, rfl, hy⟩ := nat_of (x := x2) (n := 4) (by omega)
    obtain ⟨v, rfl, hv⟩ := nat_of (x := x3) (n := 4) (by omega)
    obtain ⟨a1, a2, a3, a4⟩ := xVo hX.1.1 (show 4 * y + v < 16 by omega)
    have n1 := lna_lt (wV w (4 * y + v)) 32
    have h60 := vok_60 (g.1.1 (4 * y + v))
    show zwp (fX_never σ (x : Int) (y : Int) (v : Int)) _
    unfold fX_never
    rw [xSet_t c1, if_neg (by decide), xPiece_t c2, if_neg (by decide), xVoice_t c3, if_pos (by decide), zvo hy hv, zckj (by omega) (by omega), Int.toNat_natCast, a1, zbi_eq (qL_noteAhead a2 (by omega) σ 32 (by omega)), a3, show (32 : Int).toNat = 32 from rfl, zwj (a := lna (wV w (4 * y + v)) 32) (by omega) (by omega)]
    by_cases d : 0 ≤ lna (wV w (4 * y + v)) 32
    · obtain ⟨t, ht⟩ : ∃ t : Nat, lna (wV w (4 * y + v)) 32 = (t : Int) := ⟨_, (Int.toNat_of_nonneg d).symm⟩
      rw [ht] at n1
      rw [Int.toNat_natCast] at n1
      have s1 : (wV w (4 * y + v) t).1 = 1 := n1.2.2 (by omega)
      have p1 := h60 t
      rw [if_pos d, ht]
      refine xLearn g hX.1.1 (Or.inl rfl) hx (by omega) (fun σ1 f1 h1 l1 => ?_)
      have g1 : zfo scX σ σ1 := zIn f1 (fun q z => oT_sc (Or.inl rfl) z)
      have hM1 := MI_sX hM g1
      have q1 : zrd σ1 (9 + 3 * (4 * y + v) + 1) t = (wV w (4 * y + v) t).2 := by
        rw [f1.rd (by unfold oT; omega)]
        exact (ln_p a3 (by omega)).2
      refine ⟨_, _, pX_never_71 (V := wV w) (set := x) p1 (by omega) a2.1 σ1 q1 l1.1 61 5000 0 (by omega) (by omega), ?_⟩
      show zwp (fM_never σ1 (x : Int) (y : Int) (v : Int)) _
      unfold fM_never
      rw [mSet_t c1, if_neg (by decide), mPiece_t c2, if_neg (by decide), mVoice_t c3, if_pos (by decide), zwp_bv]
      refine zwp_mono (qM_layPiece g.1.1 y hy σ1 hM1.1.1) (fun _ σ2 ⟨f2, b2⟩ => ?_)
      have h2 : MI w σ2 := MI_fo hM1 f2 (by omega) (by omega) (by omega)
      have e1 : fM_beganAhead σ2 (v : Int) 32 = some (lna (wV w (4 * y + v)) 32, σ2) := qM_beganAhead b2 hv 32 (by omega)
      rw [zbi_eq e1, ht, zwj (a := (t : Int)) (by omega) (by omega), if_pos (by omega), zbi_eq (qM_pitchAt b2 hv t (by omega) (by omega)), zwj (a := (wV w (4 * y + v) t).2) (by omega) (by omega)]
      refine mLearn g h2 hx (fun σ3 f3 k3 h3 l3 => ?_)
      refine ⟨_, _, pM_never_64 (V := wV w) (set := x) p1 σ3 l3.1 61 5000 0 (by omega) (by omega), rfl, ?_⟩
      exact Inv_sc hI g1 ((f2.mono (fun q z => by unfold scM; omega)).tr (f3.mono (fun q z => oMLp_sc z))) (fun k a b => by rw [k3 k (by omega), f2.rd (by omega)])
    · rw [if_neg d, zwp_some]
      show zwp (fM_never σ (x : Int) (y : Int) (v : Int)) _
      unfold fM_never
      rw [mSet_t c1, if_neg (by decide), mPiece_t c2, if_neg (by decide), mVoice_t c3, if_pos (by decide), zwp_bv]
      refine zwp_mono (qM_layPiece g.1.1 y hy σ hM.1.1) (fun _ σ2 ⟨f2, b2⟩ => ?_)
      have e1 : fM_beganAhead σ2 (v : Int) 32 = some (lna (wV w (4 * y + v)) 32, σ2) := qM_beganAhead b2 hv 32 (by omega)
      rw [zbi_eq e1, zwj (a := lna (wV w (4 * y + v)) 32) (by omega) (by omega), if_neg d, zwp_some]
      exact ⟨rfl, Inv_sc hI zfo.rf (f2.mono (fun q z => by unfold scM; omega)) (fun k a b => f2.rd (by omega) k)⟩
  · exact St_neg hI (nX_never g hX x1 x2 x3 c) (nM_never g hM x1 x2 x3 c)

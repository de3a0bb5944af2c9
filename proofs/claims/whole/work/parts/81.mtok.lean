/-! MY OWN: the reference's tokens -/
theorem zJ_bv (n : Nat) : (zJ (n : Int)).toBitVec = BitVec.ofNat 64 n := by
  show BitVec.ofInt 64 (n : Int) = _
  exact BitVec.ofInt_natCast 64 n
theorem bv_zJ {x : Int64} (h : x.toBitVec.toNat < 9223372036854775808) : x.toInt = (x.toBitVec.toNat : Int) := by
  show x.toBitVec.toInt = _
  exact BitVec.toInt_eq_toNat_of_lt (by omega)
theorem zlshl8 {n : Nat} (hn : n < 36028797018963968) : zlshl (n : Int) 8 = ((n * 256 : Nat) : Int) := by
  have e : (zJ (n : Int) <<< ((zI 8).toInt64 &&& 63)).toBitVec.toNat = n * 256 := by
    rw [show (zI 8).toInt64 &&& 63 = 8 by decide, Int64.toBitVec_shiftLeft, zJ_bv]
    have e8 : (8 : Int64).toBitVec.smod 64#64 = 8#64 := by decide
    show (BitVec.ofNat 64 n <<< (8 : Int64).toBitVec.smod 64#64).toNat = _
    rw [e8, BitVec.shiftLeft_eq', BitVec.toNat_shiftLeft, BitVec.toNat_ofNat, BitVec.toNat_ofNat, Nat.shiftLeft_eq, show (2 : Nat) ^ (8 % 2 ^ 64) = 256 by decide, Nat.mod_eq_of_lt (show n < 2 ^ 64 by omega)]
    omega
  unfold zlshl
  rw [bv_zJ (by rw [e]; omega), e]
theorem zlor_n {a b : Nat} (ha : a < 9223372036854775808) (hb : b < 9223372036854775808) : zlor (a : Int) (b : Int) = ((a ||| b : Nat) : Int) := by
  have e : (zJ (a : Int) ||| zJ (b : Int)).toBitVec.toNat = a ||| b := by
    rw [Int64.toBitVec_or, BitVec.toNat_or, zJ_bv, zJ_bv, BitVec.toNat_ofNat, BitVec.toNat_ofNat, Nat.mod_eq_of_lt (by omega), Nat.mod_eq_of_lt (by omega)]
  have l : a ||| b < 2 ^ 63 := Nat.or_lt_two_pow (by omega) (by omega)
  unfold zlor
  rw [bv_zJ (by rw [e]; omega), e]
theorem zpk {n b : Nat} (hn : n < 36028797018963968) (hb : b < 256) : zlor (zlshl (n : Int) 8) (b : Int) = ((n * 256 + b : Nat) : Int) := by
  rw [zlshl8 hn, zlor_n (by omega) (by omega)]
  have := Nat.shiftLeft_add_eq_or_of_lt (i := 8) (show b < 2 ^ 8 by omega) n
  rw [Nat.shiftLeft_eq] at this
  rw [this]
def mtape (f : Nat → Int) (L : Nat) (σ : Zm) : Prop := zrd σ 273 4 = (L : Int) ∧ L ≤ 300 ∧ ∀ j, j < L → zrd σ 277 j = f j ∧ 0 ≤ f j ∧ f j ≤ 255
def fb (f : Nat → Int) (L p : Nat) : Int := if p < L then f p else -1
theorem qM_byteAt {f : Nat → Int} {L : Nat} {σ : Zm} (ht : mtape f L σ) (p : Nat) : fM_byteAt σ (p : Int) = some (fb f L p, σ) := by
  have hL := ht.2.1
  unfold fM_byteAt fb
  simp only [zlet]
  rw [ht.1]
  by_cases c : p < L
  · rw [if_neg (by omega), zckj (by omega) (by omega), if_pos c, Int.toNat_natCast, (ht.2.2 p c).1]
  · rw [if_pos (by omega), if_neg c]
theorem fb_bd {f : Nat → Int} {L p : Nat} {σ : Zm} (ht : mtape f L σ) : -1 ≤ fb f L p ∧ fb f L p ≤ 255 := by
  unfold fb
  split
  · have := ht.2.2 p (by assumption); omega
  · omega
theorem byte_eq {f : Nat → Int} {L : Nat} {σ : Zm} (ht : mtape f L σ) (p : Nat) {F : Int → Zm → Zr} : zbi (fM_byteAt σ (p : Int)) F = F (fb f L p) σ := by
  have := fb_bd (p := p) ht
  rw [zbi_eq (qM_byteAt ht p), zwj (by omega) (by omega)]
theorem qM_isLetter (σ : Zm) (c : Int) : fM_isLetter σ c = some (if isl c = true then 1 else 0, σ) := by
  unfold fM_isLetter isl
  by_cases c1 : 97 ≤ c ∧ c ≤ 122
  · rw [mIn_t c1, if_pos (by decide), if_pos (by simp [c1])]
  · rw [mIn_f c1, if_neg (by decide)]
    by_cases c2 : 65 ≤ c ∧ c ≤ 90
    · rw [mIn_t c2, if_neg (by decide), if_pos (by simp [c2])]
    · rw [mIn_f c2, if_pos rfl, if_neg (by simp [c1, c2])]
theorem qM_isDigit (σ : Zm) (c : Int) : fM_isDigit σ c = some (if isd c = true then 1 else 0, σ) := by
  unfold fM_isDigit isd
  by_cases c1 : 48 ≤ c ∧ c ≤ 57
  · rw [mIn_t c1, if_pos (by simp [c1])]; rfl
  · rw [mIn_f c1, if_neg (by simp [c1])]; rfl
/-- only the token's fields differ -/
def TR (σ σ' : Zm) : Prop := zfo (oO 273) σ σ' ∧ ∀ k, ¬ (7 ≤ k ∧ k ≤ 10) → zrd σ' 273 k = zrd σ 273 k
theorem TR.rf {σ : Zm} : TR σ σ := ⟨zfo.rf, fun _ _ => rfl⟩
theorem TR.tr {σ σ1 σ2 : Zm} (h : TR σ σ1) (h2 : TR σ1 σ2) : TR σ σ2 := ⟨h.1.tr h2.1, fun k q => (h2.2 k q).trans (h.2 k q)⟩
theorem TR_st {σ : Zm} {k : Nat} {v : Int} {F : Zm → Zr} {P : Int → Zm → Prop} (hk : 7 ≤ k ∧ k ≤ 10) (h : ∀ σ', TR σ σ' → (∀ j, zrd σ' 273 j = if j = k then zw v else zrd σ 273 j) → (∀ j, zrl σ' 273 j = zrl σ 273 j) → zwp (F σ') P) : zwp (zlet (zst σ 273 k v) F) P := by
  refine h _ ⟨zfo.st1 zfo.rf, fun j hj => ?_⟩ (fun j => ?_) (fun j => rfl)
  · rw [zrd_st, if_neg (fun z => hj (by rw [z.2]; exact hk))]
  · rw [zrd_st]
    by_cases c : j = k
    · rw [if_pos ⟨rfl, c⟩, if_pos c]
    · rw [if_neg (fun z => c z.2), if_neg c]
theorem TR_sl {σ : Zm} {v : Int} {F : Zm → Zr} {P : Int → Zm → Prop} (h : ∀ σ', TR σ σ' → (∀ j, zrd σ' 273 j = zrd σ 273 j) → zrl σ' 273 11 = zx v → zwp (F σ') P) : zwp (zlet (zsl σ 273 11 v) F) P := by
  refine h _ ⟨zfo.sl1 zfo.rf, fun j _ => rfl⟩ (fun j => rfl) ?_
  rw [zrl_sl, if_pos ⟨rfl, rfl⟩]
theorem mtape_TR {f : Nat → Int} {L : Nat} {σ σ1 : Zm} (h : mtape f L σ) (hr : TR σ σ1) : mtape f L σ1 := by
  obtain ⟨h1, h2, h3⟩ := h
  exact ⟨by rw [hr.2 4 (by omega)]; exact h1, h2, fun j hj => by rw [hr.1.rd (oO_ne (by omega))]; exact h3 j hj⟩
theorem pM_nextToken_0 {f : Nat → Int} {L : Nat} (σ0 : Zm) (ht : mtape f L σ0) (P : Int → Zm → Prop) (K : Zm → Zr) (q : Nat) (hK : ∀ σ', TR σ0 σ' → zrd σ' 273 7 = (q : Int) → zwp (K σ') P) : ∀ (d m p : Nat) (σ : Zm), d < m → p + d = L → q = rn isw f d p → TR σ0 σ → zrd σ 273 7 = (p : Int) → zwp (fM_nextToken_0 m σ K) P
  | 0, m + 1, p, σ, _, hp, hq, h1, h2 => by
    have t1 := mtape_TR ht h1
    have e : fb f L p = -1 := by unfold fb; rw [if_neg (by omega)]
    rw [fM_nextToken_0]
    simp only [zwp_let]
    rw [h2, byte_eq t1, e, if_neg (by decide), zwp_let, h2, byte_eq t1, e, if_pos (by decide)]
    exact hK σ h1 (by rw [h2, hq]; rfl)
  | d + 1, m + 1, p, σ, hm, hp, hq, h1, h2 => by
    have t1 := mtape_TR ht h1
    have hL := t1.2.1
    have e : fb f L p = f p := by unfold fb; rw [if_pos (by omega)]
    have go : isw (f p) = true → zwp (zlet (zst σ 273 7 ((p : Int) + 1)) fun σ6 => fM_nextToken_0 m σ6 K) P := by
      intro hw
      refine TR_st (by omega) (fun σ1 r1 e1 _ => ?_)
      refine pM_nextToken_0 σ0 ht P K q hK d m (p + 1) σ1 (by omega) (by omega) ?_ (h1.tr r1) (by rw [e1, if_pos rfl, zwj (by omega) (by omega)]; omega)
      rw [hq]
      show (if isw (f p) = true then _ else _) = _
      rw [if_pos hw]
    rw [fM_nextToken_0]
    simp only [zwp_let]
    rw [h2, byte_eq t1, e]
    by_cases c1 : f p = 32
    · rw [if_pos c1, zwp_let, h2]
      exact go (by unfold isw; simp [c1])
    · rw [if_neg c1, zwp_let, h2, byte_eq t1, e]
      by_cases c2 : f p = 10
      · rw [ifnn c2, zwp_let, h2]
        exact go (by unfold isw; simp [c2])
      · rw [if_pos c2]
        refine hK σ h1 ?_
        rw [h2, hq]
        show (p : Int) = ((if isw (f p) = true then _ else p : Nat) : Int)
        rw [if_neg (by unfold isw; simp [c1, c2])]
theorem pk_bd {f : Nat → Int} {s : Nat} : ∀ n : Nat, (∀ j, j < n → 0 ≤ f (s + j) ∧ f (s + j) ≤ 255) → pk f s n < 256 ^ n
  | 0, _ => by show (0 : Nat) < 1; omega
  | n + 1, h => by
    have ih := pk_bd (f := f) (s := s) n (fun j hj => h j (by omega))
    have hd := h n (by omega)
    have e : (256 : Nat) ^ (n + 1) = 256 ^ n * 256 := Nat.pow_succ ..
    show pk f s n * 256 + (f (s + n)).toNat < _
    rw [e]
    omega
/-- the packed letters so far, at most seven -/
def pk7 (f : Nat → Int) (s n : Nat) : Nat := if n ≤ 7 then pk f s n else pk f s 7
theorem pM_nextToken_161 {f : Nat → Int} {L s : Nat} (σ0 : Zm) (ht : mtape f L σ0) (P : Int → Zm → Prop) (K : Zm → Zr) (q : Nat) (hK : ∀ σ', TR σ0 σ' → zrd σ' 273 7 = (q : Int) → zrd σ' 273 8 = (s : Int) → zrd σ' 273 9 = 2 → zrl σ' 273 11 = (pk7 f s (q - s) : Int) → zwp (K σ') P) : ∀ (d m n : Nat) (σ : Zm), d < m → s + n + d = L → q = rn isl f d (s + n) → TR σ0 σ → zrd σ 273 7 = ((s + n : Nat) : Int) → zrd σ 273 8 = (s : Int) → zrd σ 273 9 = 2 → zrl σ 273 11 = (pk7 f s n : Int) → zwp (fM_nextToken_161 m σ K) P
  | 0, m + 1, n, σ, _, hp, hq, h1, h2, h3, h4, h5 => by
    have t1 := mtape_TR ht h1
    have e : fb f L (s + n) = -1 := by unfold fb; rw [if_neg (by omega)]
    have hq' : q = s + n := hq
    rw [fM_nextToken_161]
    simp only [zwp_let]
    rw [h2, byte_eq t1, e, zbi_eq (qM_isLetter σ (-1)), zw_b2, if_neg (show ¬ isl (-1) = true by decide), if_pos rfl]
    exact hK σ h1 (by rw [h2, hq']) h3 h4 (by rw [h5, hq', show s + n - s = n by omega])
  | d + 1, m + 1, n, σ, hm, hp, hq, h1, h2, h3, h4, h5 => by
    have t1 := mtape_TR ht h1
    have hL := t1.2.1
    have e : fb f L (s + n) = f (s + n) := by unfold fb; rw [if_pos (by omega)]
    rw [fM_nextToken_161]
    simp only [zwp_let]
    rw [h2, byte_eq t1, e, zbi_eq (qM_isLetter σ (f (s + n))), zw_b2]
    by_cases c1 : isl (f (s + n)) = true
    · have hq2 : q = rn isl f d (s + (n + 1)) := by
        rw [hq]
        show (if isl (f (s + n)) = true then rn isl f d (s + n + 1) else _) = _
        rw [if_pos c1]; rfl
      rw [if_pos c1, if_neg (by decide), zwp_let, zwp_let, h2, h3, show zw (((s + n : Nat) : Int) - (s : Int)) = (n : Int) by rw [zwj (by omega) (by omega)]; omega]
      by_cases c2 : 7 ≤ n
      · rw [if_pos (by omega), zwp_let]
        refine TR_st (by omega) (fun σ1 r1 e1 l1 => ?_)
        refine pM_nextToken_161 σ0 ht P K q hK d m (n + 1) σ1 (by omega) (by omega) hq2 (h1.tr r1) (by rw [e1, if_pos rfl, zwj (by omega) (by omega)]; omega) (by rw [e1, if_neg (by decide), h3]) (by rw [e1, if_neg (by decide), h4]) ?_
        rw [l1, h5]
        unfold pk7
        by_cases z : n = 7
        · rw [if_pos (by omega), if_neg (by omega), z]
        · rw [if_neg (by omega), if_neg (by omega)]
      · rw [if_neg (by omega), zwp_let, zwp_let, byte_eq t1, e, h5]
        have hfn := t1.2.2 (s + n) (by omega)
        have hpb := pk_bd (f := f) (s := s) n (fun j hj => (t1.2.2 (s + j) (by omega)).2)
        have hp6 : (256 : Nat) ^ n ≤ 256 ^ 6 := Nat.pow_le_pow_right (by omega) (by omega)
        have e7 : pk7 f s n = pk f s n := by unfold pk7; rw [if_pos (by omega)]
        have e8 : pk7 f s (n + 1) = pk f s n * 256 + (f (s + n)).toNat := by unfold pk7; rw [if_pos (by omega)]; rfl
        have hp7 : (256 : Nat) ^ 6 = 281474976710656 := by decide
        have hfc : ((f (s + n)).toNat : Int) = f (s + n) := Int.toNat_of_nonneg hfn.2.1
        rw [e7, show f (s + n) = (((f (s + n)).toNat : Nat) : Int) from hfc.symm, zpk (by omega) (by omega)]
        refine TR_sl (fun σ1 r1 e1 l1 => ?_)
        rw [zwp_let, e1, h2]
        refine TR_st (by omega) (fun σ2 r2 e2 l2 => ?_)
        refine pM_nextToken_161 σ0 ht P K q hK d m (n + 1) σ2 (by omega) (by omega) hq2 ((h1.tr r1).tr r2) (by rw [e2, if_pos rfl, zwj (by omega) (by omega)]; omega) (by rw [e2, if_neg (by decide), e1, h3]) (by rw [e2, if_neg (by decide), e1, h4]) ?_
        rw [l2, l1, e8]
        exact zx_id (by omega) (by omega)
    · rw [if_neg c1, if_pos rfl]
      have hq' : q = s + n := by
        rw [hq]
        show (if isl (f (s + n)) = true then _ else s + n) = s + n
        rw [if_neg c1]
      exact hK σ h1 (by rw [h2, hq']) h3 h4 (by rw [h5, hq', show s + n - s = n by omega])
theorem pM_nextToken_85 {f : Nat → Int} {L s : Nat} (σ0 : Zm) (ht : mtape f L σ0) (q : Nat) : ∀ (d m n : Nat) (σ : Zm) (u : Int), d < m → s + n + d = L → q = rn isd f d (s + n) → TR σ0 σ → zrd σ 273 7 = ((s + n : Nat) : Int) → zrd σ 273 8 = (s : Int) → zrd σ 273 9 = 1 → zrd σ 273 10 = u → (0 ≤ u ∧ u ≤ 1000008 ∧ min 1000 u = nmv f s n) → zwp (fM_nextToken_85 m σ) (fun _ σ' => TR σ0 σ' ∧ zrd σ' 273 7 = (q : Int) ∧ zrd σ' 273 8 = (s : Int) ∧ zrd σ' 273 9 = 1 ∧ 0 ≤ zrd σ' 273 10 ∧ min 1000 (zrd σ' 273 10) = nmv f s (q - s))
  | 0, m + 1, n, σ, u, _, hp, hq, h1, h2, h3, h4, h5, h6 => by
    have t1 := mtape_TR ht h1
    have e : fb f L (s + n) = -1 := by unfold fb; rw [if_neg (by omega)]
    have hq' : q = s + n := hq
    rw [fM_nextToken_85]
    simp only [zwp_let]
    rw [h2, byte_eq t1, e, zbi_eq (qM_isDigit σ (-1)), zw_b2, if_neg (show ¬ isd (-1) = true by decide), if_pos rfl, zwp_some]
    exact ⟨h1, by rw [h2, hq'], h3, h4, by rw [h5]; exact h6.1, by rw [h5, hq', show s + n - s = n by omega]; exact h6.2.2⟩
  | d + 1, m + 1, n, σ, u, hm, hp, hq, h1, h2, h3, h4, h5, h6 => by
    have t1 := mtape_TR ht h1
    have hL := t1.2.1
    have e : fb f L (s + n) = f (s + n) := by unfold fb; rw [if_pos (by omega)]
    rw [fM_nextToken_85]
    simp only [zwp_let]
    rw [h2, byte_eq t1, e, zbi_eq (qM_isDigit σ (f (s + n))), zw_b2]
    by_cases c1 : isd (f (s + n)) = true
    · have hd1 : 48 ≤ f (s + n) ∧ f (s + n) ≤ 57 := by unfold isd at c1; simpa using c1
      have hq2 : q = rn isd f d (s + (n + 1)) := by
        rw [hq]
        show (if isd (f (s + n)) = true then rn isd f d (s + n + 1) else _) = _
        rw [if_pos c1]; rfl
      have en : nmv f s (n + 1) = min 1000 (nmv f s n * 10 + f (s + n) - 48) := rfl
      rw [if_pos c1, if_neg (by decide), zwp_let, h5]
      by_cases c2 : 100000 ≤ u
      · rw [if_pos c2, zwp_let]
        refine TR_st (by omega) (fun σ1 r1 e1 l1 => ?_)
        exact pM_nextToken_85 σ0 ht q d m (n + 1) σ1 u (by omega) (by omega) hq2 (h1.tr r1) (by rw [e1, if_pos rfl, zwj (by omega) (by omega)]; omega) (by rw [e1, if_neg (by decide), h3]) (by rw [e1, if_neg (by decide), h4]) (by rw [e1, if_neg (by decide), h5]) (by rw [en]; omega)
      · rw [if_neg c2, zwp_let, zwp_let, h2, byte_eq t1, e]
        refine TR_st (by omega) (fun σ1 r1 e1 l1 => ?_)
        rw [zwp_let, e1 7, if_neg (by decide), h2]
        refine TR_st (by omega) (fun σ2 r2 e2 l2 => ?_)
        exact pM_nextToken_85 σ0 ht q d m (n + 1) σ2 (10 * u + f (s + n) - 48) (by omega) (by omega) hq2 ((h1.tr r1).tr r2) (by rw [e2, if_pos rfl, zwj (by omega) (by omega)]; omega) (by rw [e2, if_neg (by decide), e1, if_neg (by decide), h3]) (by rw [e2, if_neg (by decide), e1, if_neg (by decide), h4]) (by rw [e2, if_neg (by decide), e1, if_pos rfl, zwj (by omega) (by omega)]) (by rw [en]; omega)
    · rw [if_neg c1, if_pos rfl, zwp_some]
      have hq' : q = s + n := by
        rw [hq]
        show (if isd (f (s + n)) = true then _ else s + n) = s + n
        rw [if_neg c1]
      exact ⟨h1, by rw [h2, hq'], h3, h4, by rw [h5]; exact h6.1, by rw [h5, hq', show s + n - s = n by omega]; exact h6.2.2⟩
/-- the token that the reference holds -/
def sgm1 (c : Int) : Int := if c = 60 ∨ c = 62 ∨ c = 61 ∨ c = 35 ∨ c = 43 ∨ c = 45 ∨ c = 42 ∨ c = 47 ∨ c = 40 ∨ c = 41 ∨ c = 59 then c else 3
def MK (f : Nat → Int) (L s : Nat) (σ : Zm) : Prop := if L ≤ s then zrd σ 273 9 = 0 else if isl (f s) = true then zrd σ 273 9 = 2 ∧ zrl σ 273 11 = (wv f s (rn isl f (L - s) s) : Int) else if isd (f s) = true then zrd σ 273 9 = 1 ∧ 0 ≤ zrd σ 273 10 ∧ min 1000 (zrd σ 273 10) = nmv f s (rn isd f (L - s) s - s) else if two f L s = true then zrd σ 273 9 = (if f s = 60 then 4 else 5) else zrd σ 273 9 = sgm1 (f s)
def MTk (f : Nat → Int) (L s : Nat) (σ : Zm) : Prop := zrd σ 273 8 = (s : Int) ∧ zrd σ 273 7 = (tnx f L s : Int) ∧ MK f L s σ
theorem pM_next_340 {f : Nat → Int} {L s : Nat} (σ0 σ : Zm) (ht : mtape f L σ) (hr : TR σ0 σ) (hs : s < L) (hl : ¬ isl (f s) = true) (hd : ¬ isd (f s) = true) (h7 : zrd σ 273 7 = ((s + 1 : Nat) : Int)) (h8 : zrd σ 273 8 = (s : Int)) (h9 : zrd σ 273 9 = sgm1 (f s)) : zwp (fM_nextToken_340 (f s) σ) (fun _ σ' => TR σ0 σ' ∧ MTk f L s σ') := by
  have hL := ht.2.1
  have en : tnx f L s = if two f L s = true then s + 2 else s + 1 := by unfold tnx; rw [if_neg (by omega), if_neg hl, if_neg hd]
  have ek : ∀ σ', MK f L s σ' ↔ (if two f L s = true then zrd σ' 273 9 = (if f s = 60 then 4 else 5) else zrd σ' 273 9 = sgm1 (f s)) := by
    intro σ'
    unfold MK
    rw [if_neg (by omega), if_neg hl, if_neg hd]
  have one : two f L s = false → zwp (some (0, σ) : Zr) (fun _ σ' => TR σ0 σ' ∧ MTk f L s σ') := by
    intro h2
    rw [zwp_some]
    refine ⟨hr, h8, ?_, (ek σ).2 ?_⟩
    · rw [en, h2, if_neg (by decide)]; exact h7
    · rw [h2, if_neg (by decide)]; exact h9
  have go : (f s = 60 ∨ f s = 62) → zwp (fM_nextToken_352 (f s) σ) (fun _ σ' => TR σ0 σ' ∧ MTk f L s σ') := by
    intro hc
    unfold fM_nextToken_352
    rw [zwp_let, h7, byte_eq ht]
    by_cases c1 : s + 1 < L
    · have e : fb f L (s + 1) = f (s + 1) := by unfold fb; rw [if_pos c1]
      rw [e]
      by_cases c2 : f (s + 1) = 61
      · have h2 : two f L s = true := by unfold two; simp [c1, c2]; omega
        rw [ifnn c2, zwp_let, h7]
        refine TR_st (by omega) (fun σ1 r1 e1 _ => ?_)
        have fin9 : ∀ v : Int, zw v = (if f s = 60 then 4 else 5) → zwp (zlet (zst σ1 273 9 v) fun σ29 => some (0, σ29)) (fun _ σ' => TR σ0 σ' ∧ MTk f L s σ') := by
          intro v hv
          refine TR_st (by omega) (fun σ2 r2 e2 _ => ?_)
          rw [zwp_some]
          refine ⟨(hr.tr r1).tr r2, ?_, ?_, (ek σ2).2 ?_⟩
          · rw [e2, if_neg (by decide), e1, if_neg (by decide), h8]
          · rw [e2, if_neg (by decide), e1, if_pos rfl, en, h2, if_pos rfl, zwj (by omega) (by omega)]; omega
          · rw [h2, if_pos rfl, e2, if_pos rfl, hv]
        by_cases c3 : f s = 60
        · rw [ifnn c3]; exact fin9 4 (by rw [if_pos c3]; rfl)
        · rw [if_pos c3]; exact fin9 5 (by rw [if_neg c3]; rfl)
      · rw [if_pos c2]
        exact one (by unfold two; simp [c2])
    · have e : fb f L (s + 1) = -1 := by unfold fb; rw [if_neg c1]
      rw [e, if_pos (by decide)]
      exact one (by unfold two; simp [c1])
  unfold fM_nextToken_340
  by_cases c1 : f s = 60
  · rw [if_pos c1]; exact go (Or.inl c1)
  · rw [if_neg c1]
    by_cases c2 : f s = 62
    · rw [ifnn c2]; exact go (Or.inr c2)
    · rw [if_pos c2]
      exact one (by unfold two; simp [c1, c2])
theorem qM_nextToken {f : Nat → Int} {L p : Nat} (σ : Zm) (ht : mtape f L σ) (h7 : zrd σ 273 7 = (p : Int)) (hp : p ≤ L) : zwp (fM_nextToken σ) (fun _ σ' => TR σ σ' ∧ MTk f L (ts f L p) σ') := by
  have hL := ht.2.1
  have hts := ts_bd (f := f) hp
  unfold fM_nextToken
  refine pM_nextToken_0 σ ht _ _ (ts f L p) (fun σ1 r1 g7 => ?_) (L - p) 5000 p σ (by omega) (by omega) rfl TR.rf h7
  generalize ts f L p = s at *
  have t1 := mtape_TR ht r1
  rw [zwp_let, g7]
  refine TR_st (by omega) (fun σ2 r2 e2 _ => ?_)
  have r12 := r1.tr r2
  have t2 := mtape_TR ht r12
  have k7 : zrd σ2 273 7 = (s : Int) := by rw [e2, if_neg (by decide), g7]
  have k8 : zrd σ2 273 8 = (s : Int) := by rw [e2, if_pos rfl, zwj (by omega) (by omega)]
  rw [zwp_let, k7, byte_eq t2]
  by_cases c1 : s < L
  · have e : fb f L s = f s := by unfold fb; rw [if_pos c1]
    have hf := t2.2.2 s c1
    rw [e, if_pos hf.2.1, zbi_eq (qM_isDigit σ2 (f s)), zw_b2]
    by_cases c2 : isd (f s) = true
    · have nl : ¬ isl (f s) = true := by
        unfold isd at c2
        unfold isl
        simp at c2 ⊢
        omega
      rw [if_pos c2, if_neg (by decide)]
      refine TR_st (by omega) (fun σ3 r3 e3 _ => ?_)
      refine TR_st (by omega) (fun σ4 r4 e4 _ => ?_)
      have r14 := (r12.tr r3).tr r4
      refine zwp_mono (pM_nextToken_85 (s := s) σ4 (mtape_TR ht r14) (rn isd f (L - s) s) (L - s) 5000 0 σ4 0 (by omega) (by omega) rfl TR.rf ?_ ?_ ?_ ?_ ⟨by omega, by omega, rfl⟩) (fun _ σ5 ⟨q1, q2, q3, q4, q5, q6⟩ => ?_)
      · rw [e4, if_neg (by decide), e3, if_neg (by decide), k7]; rfl
      · rw [e4, if_neg (by decide), e3, if_neg (by decide), k8]
      · rw [e4, if_neg (by decide), e3, if_pos rfl]; rfl
      · rw [e4, if_pos rfl]; rfl
      · refine ⟨r14.tr q1, q3, ?_, ?_⟩
        · rw [q2]
          unfold tnx
          rw [if_neg (by omega), if_neg nl, if_pos c2]
        · unfold MK
          rw [if_neg (by omega), if_neg nl, if_pos c2]
          exact ⟨q4, q5, q6⟩
    · rw [if_neg c2, if_pos rfl, zbi_eq (qM_isLetter σ2 (f s)), zw_b2]
      by_cases c3 : isl (f s) = true
      · rw [if_pos c3, if_neg (by decide)]
        refine TR_st (by omega) (fun σ3 r3 e3 _ => ?_)
        refine TR_sl (fun σ4 r4 e4 l4 => ?_)
        have r14 := (r12.tr r3).tr r4
        have hq := rn_bd isl f (L - s) s
        refine pM_nextToken_161 (s := s) σ4 (mtape_TR ht r14) _ _ (rn isl f (L - s) s) (fun σ5 q1 q2 q3 q4 q5 => ?_) (L - s) 5000 0 σ4 (by omega) (by omega) rfl TR.rf ?_ ?_ ?_ ?_
        · have en : (tnx f L s : Int) = (rn isl f (L - s) s : Int) := by
            unfold tnx
            rw [if_neg (by omega), if_pos c3]
          rw [zwp_let, zwp_let, q2, q3, zwj (by omega) (by omega)]
          have ek : ∀ σ', MK f L s σ' ↔ (zrd σ' 273 9 = 2 ∧ zrl σ' 273 11 = (wv f s (rn isl f (L - s) s) : Int)) := by
            intro σ'
            unfold MK
            rw [if_neg (by omega), if_pos c3]
          by_cases c4 : rn isl f (L - s) s - s ≤ 7
          · rw [if_pos (by omega), zwp_some]
            refine ⟨r14.tr q1, q3, by rw [q2, en], (ek σ5).2 ⟨q4, ?_⟩⟩
            rw [q5]
            unfold pk7 wv
            rw [if_pos c4, if_pos c4]
          · rw [if_neg (by omega)]
            refine TR_sl (fun σ6 r6 e6 l6 => ?_)
            rw [zwp_some]
            refine ⟨(r14.tr q1).tr r6, by rw [e6]; exact q3, by rw [e6, q2, en], (ek σ6).2 ⟨by rw [e6]; exact q4, ?_⟩⟩
            rw [l6]
            unfold wv
            rw [if_neg c4]; rfl
        · rw [e4, e3, if_neg (by decide), k7]; rfl
        · rw [e4, e3, if_neg (by decide), k8]
        · rw [e4, e3, if_pos rfl]; rfl
        · rw [l4]; rfl
      · rw [if_neg c3, if_pos rfl, zwp_let, k7]
        refine TR_st (by omega) (fun σ3 r3 e3 _ => ?_)
        have r13 := r12.tr r3
        have t3 := mtape_TR ht r13
        have j7 : zrd σ3 273 7 = ((s + 1 : Nat) : Int) := by rw [e3, if_pos rfl, zwj (by omega) (by omega)]; omega
        have j8 : zrd σ3 273 8 = (s : Int) := by rw [e3, if_neg (by decide), k8]
        have yes : sgm1 (f s) = f s → zwp (fM_nextToken_321 (f s) σ3) (fun _ σ' => TR σ σ' ∧ MTk f L s σ') := by
          intro hy
          unfold fM_nextToken_321 fM_nextToken_327
          rw [if_neg (by decide)]
          refine TR_st (by omega) (fun σ4 r4 e4 _ => ?_)
          exact pM_next_340 σ σ4 (mtape_TR ht (r13.tr r4)) (r13.tr r4) c1 c3 c2 (by rw [e4, if_neg (by decide), j7]) (by rw [e4, if_neg (by decide), j8]) (by rw [e4, if_pos rfl, hy, zwj (by omega) (by omega)])
        have no : sgm1 (f s) = 3 → zwp (fM_nextToken_327 (f s) 0 σ3) (fun _ σ' => TR σ σ' ∧ MTk f L s σ') := by
          intro hy
          unfold fM_nextToken_327
          rw [if_pos rfl]
          refine TR_st (by omega) (fun σ4 r4 e4 _ => ?_)
          exact pM_next_340 σ σ4 (mtape_TR ht (r13.tr r4)) (r13.tr r4) c1 c3 c2 (by rw [e4, if_neg (by decide), j7]) (by rw [e4, if_neg (by decide), j8]) (by rw [e4, if_pos rfl, hy]; rfl)
        have sy : (f s = 60 ∨ f s = 62 ∨ f s = 61 ∨ f s = 35 ∨ f s = 43 ∨ f s = 45 ∨ f s = 42 ∨ f s = 47 ∨ f s = 40 ∨ f s = 41 ∨ f s = 59) → sgm1 (f s) = f s := fun h => if_pos h
        by_cases d1 : f s = 60
        · rw [if_pos d1]; exact yes (sy (by omega))
        · rw [if_neg d1]
          by_cases d2 : f s = 62
          · rw [if_pos d2]; exact yes (sy (by omega))
          · rw [if_neg d2]
            by_cases d3 : f s = 61
            · rw [if_pos d3]; exact yes (sy (by omega))
            · rw [if_neg d3]
              by_cases d4 : f s = 35
              · rw [if_pos d4]; exact yes (sy (by omega))
              · rw [if_neg d4]
                by_cases d5 : f s = 43
                · rw [if_pos d5]; exact yes (sy (by omega))
                · rw [if_neg d5]
                  by_cases d6 : f s = 45
                  · rw [if_pos d6]; exact yes (sy (by omega))
                  · rw [if_neg d6]
                    by_cases d7 : f s = 42
                    · rw [if_pos d7]; exact yes (sy (by omega))
                    · rw [if_neg d7]
                      by_cases d8 : f s = 47
                      · rw [if_pos d8]; exact yes (sy (by omega))
                      · rw [if_neg d8]
                        by_cases d9 : f s = 40
                        · rw [if_pos d9]; exact yes (sy (by omega))
                        · rw [if_neg d9]
                          by_cases d10 : f s = 41
                          · rw [if_pos d10]; exact yes (sy (by omega))
                          · rw [if_neg d10]
                            by_cases d11 : f s = 59
                            · rw [ifnn d11]; exact yes (sy (by omega))
                            · rw [if_pos d11]
                              exact no (if_neg (by omega))
  · have e : fb f L s = -1 := by unfold fb; rw [if_neg c1]
    rw [e, if_neg (by decide)]
    refine TR_st (by omega) (fun σ3 r3 e3 _ => ?_)
    rw [zwp_some]
    refine ⟨r12.tr r3, ?_, ?_, ?_⟩
    · rw [e3, if_neg (by decide), k8]
    · rw [e3, if_neg (by decide), k7]
      unfold tnx
      rw [if_pos (by omega)]
    · unfold MK
      rw [if_pos (by omega), e3, if_pos rfl]; rfl

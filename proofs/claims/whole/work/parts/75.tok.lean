/-! MY OWN: tokens of a tape, and the class's scan -/
def isw (c : Int) : Bool := decide (c = 32) || decide (c = 10)
def isl (c : Int) : Bool := decide (97 ≤ c ∧ c ≤ 122) || decide (65 ≤ c ∧ c ≤ 90)
def isd (c : Int) : Bool := decide (48 ≤ c ∧ c ≤ 57)
def rn (q : Int → Bool) (f : Nat → Int) : Nat → Nat → Nat
  | 0, p => p
  | d + 1, p => if q (f p) = true then rn q f d (p + 1) else p
theorem rn_bd (q : Int → Bool) (f : Nat → Int) : ∀ d p, p ≤ rn q f d p ∧ rn q f d p ≤ p + d
  | 0, p => ⟨Nat.le_refl _, Nat.le_refl _⟩
  | d + 1, p => by
    have := rn_bd q f d (p + 1)
    unfold rn
    split <;> omega
def pk (f : Nat → Int) (s : Nat) : Nat → Nat
  | 0 => 0
  | n + 1 => pk f s n * 256 + (f (s + n)).toNat
/-- a word's value: no longer than seven -/
def wv (f : Nat → Int) (s e : Nat) : Nat := if e - s ≤ 7 then pk f s (e - s) else 0
def wtb : List Nat := [1885432178, 1818848869, 418363302244, 108187867505765, 2003330414, 28530, 6385252, 7237492, 6775152, 7823731, 1835626085, 521561010803, 7106423, 1751738216, 427121668979, 1752132708, 482854658917, 1937007984, 1818325876, 482805572456, 1919251316, 121450625394034, 125848655588967, 6909547, 1936292453, 31091360100872802, 32217255830775650, 1768844130, 495690868066]
def wfn (v : Nat) : List Nat → Int → Int
  | [], _ => -1
  | a :: l, k => if v = a then k else wfn v l (k + 1)
def wnm (v : Nat) : Int := wfn v wtb 0
theorem wfn_bd (v : Nat) : ∀ (l : List Nat) (k : Int), wfn v l k = -1 ∨ (k ≤ wfn v l k ∧ wfn v l k < k + l.length)
  | [], _ => Or.inl rfl
  | a :: l, k => by
    have := wfn_bd v l (k + 1)
    unfold wfn
    simp only [List.length_cons]
    split
    · right; omega
    · omega
theorem wnm_bd (v : Nat) : wnm v = -1 ∨ (0 ≤ wnm v ∧ wnm v < 29) := by
  have h := wfn_bd v wtb 0
  have hl : wtb.length = 29 := by decide
  unfold wnm
  omega
def nmv (f : Nat → Int) (s : Nat) : Nat → Int
  | 0 => 0
  | n + 1 => min 1000 (nmv f s n * 10 + f (s + n) - 48)
/-- where the next token starts -/
def ts (f : Nat → Int) (L p : Nat) : Nat := rn isw f (L - p) p
def sgk (c : Int) : Int := if c = 35 then 9 else if c = 40 then 0 else if c = 41 then 15 else if c = 42 then 12 else if c = 43 then 10 else if c = 45 then 11 else if c = 47 then 13 else if c = 59 then 16 else if c = 60 then 4 else if c = 61 then 8 else if c = 62 then 6 else 22
def wkd (n : Int) : Int := if n = -1 then 22 else if n < 4 then 18 else if n = 4 then 17 else if n < 8 then n - 4 else 19
/-- whether the sign at s goes on with = -/
def two (f : Nat → Int) (L s : Nat) : Bool := (decide (f s = 60) || decide (f s = 62)) && decide (s + 1 < L) && decide (f (s + 1) = 61)
/-- kind, value, next place of the token that starts at s -/
def tk (f : Nat → Int) (L s : Nat) : Int := if L ≤ s then 21 else if isl (f s) = true then wkd (wnm (wv f s (rn isl f (L - s) s))) else if isd (f s) = true then 20 else if two f L s = true then sgk (f s) + 1 else sgk (f s)
def tvl (f : Nat → Int) (L s : Nat) : Int := if isl (f s) = true then (if wnm (wv f s (rn isl f (L - s) s)) < 8 then wnm (wv f s (rn isl f (L - s) s)) else wnm (wv f s (rn isl f (L - s) s)) - 8) else nmv f s (rn isd f (L - s) s - s)
def tnx (f : Nat → Int) (L s : Nat) : Nat := if L ≤ s then s else if isl (f s) = true then rn isl f (L - s) s else if isd (f s) = true then rn isd f (L - s) s else if two f L s = true then s + 2 else s + 1
def tape (f : Nat → Int) (L : Nat) (σ : Zm) : Prop := zrd σ 150 2 = (L : Int) ∧ L ≤ 300 ∧ ∀ j, j < L → zrd σ 151 j = f j ∧ 0 ≤ f j ∧ f j ≤ 255
/-- only these fields of the reader differ -/
def RS (S : Nat → Prop) (σ σ' : Zm) : Prop := zfo (oO 150) σ σ' ∧ ∀ k, ¬ S k → zrd σ' 150 k = zrd σ 150 k
theorem RS.rf {S : Nat → Prop} {σ : Zm} : RS S σ σ := ⟨zfo.rf, fun _ _ => rfl⟩
theorem RS.tr {S : Nat → Prop} {σ σ1 σ2 : Zm} (h : RS S σ σ1) (h2 : RS S σ1 σ2) : RS S σ σ2 := ⟨h.1.tr h2.1, fun k q => (h2.2 k q).trans (h.2 k q)⟩
theorem RS.mono {S S' : Nat → Prop} {σ σ1 : Zm} (h : RS S σ σ1) (hs : ∀ q, S q → S' q) : RS S' σ σ1 := ⟨h.1, fun k q => h.2 k (fun z => q (hs k z))⟩
theorem RS_st {S : Nat → Prop} {σ : Zm} {k : Nat} {v : Int} {F : Zm → Zr} {P : Int → Zm → Prop} (hS : S k) (h : ∀ σ', RS S σ σ' → (∀ j, zrd σ' 150 j = if j = k then zw v else zrd σ 150 j) → zwp (F σ') P) : zwp (zlet (zst σ 150 k v) F) P := by
  refine zwp_st (fun σ1 f1 v1 => h σ1 ⟨f1, fun j hj => ?_⟩ v1)
  rw [v1, if_neg (fun z => hj (by rw [z]; exact hS))]
theorem tape_RS {S : Nat → Prop} {f : Nat → Int} {L : Nat} {σ σ1 : Zm} (h : tape f L σ) (hr : RS S σ σ1) (hS : ¬ S 2) : tape f L σ1 := by
  obtain ⟨h1, h2, h3⟩ := h
  exact ⟨by rw [hr.2 2 hS]; exact h1, h2, fun j hj => by rw [hr.1.rd (oO_ne (by omega))]; exact h3 j hj⟩
theorem qR_isLetter (σ : Zm) (c : Int) : fR_isLetter σ c = some (if isl c = true then 1 else 0, σ) := by
  unfold fR_isLetter isl
  by_cases c1 : 97 ≤ c ∧ c ≤ 122
  · rw [pwithin_t c1, if_pos (by decide), if_pos (by simp [c1])]
  · rw [pwithin_f c1, if_neg (by decide)]
    by_cases c2 : 65 ≤ c ∧ c ≤ 90
    · rw [pwithin_t c2, if_neg (by decide), if_pos (by simp [c2])]
    · rw [pwithin_f c2, if_pos rfl, if_neg (by simp [c1, c2])]
theorem qR_isDigit (σ : Zm) (c : Int) : fR_isDigit σ c = some (if isd c = true then 1 else 0, σ) := by
  unfold fR_isDigit isd
  by_cases c1 : 48 ≤ c ∧ c ≤ 57
  · rw [pwithin_t c1, if_pos (by simp [c1])]; rfl
  · rw [pwithin_f c1, if_neg (by simp [c1])]; rfl
def s5 (k : Nat) : Prop := k = 5
theorem pR_scan_0 {f : Nat → Int} {L : Nat} (σ0 : Zm) (ht : tape f L σ0) (P : Int → Zm → Prop) (K : Zm → Zr) (q : Nat) (hK : ∀ σ', RS s5 σ0 σ' → zrd σ' 150 5 = (q : Int) → zwp (K σ') P) : ∀ (d m p : Nat) (σ : Zm), d < m → p + d = L → q = rn isw f d p → RS s5 σ0 σ → zrd σ 150 5 = (p : Int) → zwp (fR_scan_0 m σ K) P
  | 0, m + 1, p, σ, _, hp, hq, h1, h2 => by
    have t1 := tape_RS ht h1 (by unfold s5; omega)
    rw [fR_scan_0]
    simp only [zwp_let]
    rw [h2, t1.1, if_pos (by omega)]
    exact hK σ h1 (by rw [h2, hq]; rfl)
  | d + 1, m + 1, p, σ, hm, hp, hq, h1, h2 => by
    have t1 := tape_RS ht h1 (by unfold s5; omega)
    have hL := t1.2.1
    have hf := t1.2.2 p (by omega)
    have go : isw (f p) = true → zwp (zlet (zst σ 150 5 ((p : Int) + 1)) fun σ6 => fR_scan_0 m σ6 K) P := by
      intro hw
      refine RS_st (S := s5) rfl (fun σ1 r1 e1 => ?_)
      refine pR_scan_0 σ0 ht P K q hK d m (p + 1) σ1 (by omega) (by omega) ?_ (h1.tr r1) (by rw [e1, if_pos rfl, zwj (by omega) (by omega)]; omega)
      rw [hq]
      show (if isw (f p) = true then _ else _) = _
      rw [if_pos hw]
    rw [fR_scan_0]
    simp only [zwp_let]
    rw [h2, t1.1, if_neg (by omega), zwp_let, zckj (by omega) (by omega), zwp_let, Int.toNat_natCast, hf.1]
    by_cases c1 : f p = 32
    · rw [if_pos c1]
      exact go (by unfold isw; simp [c1])
    · rw [if_neg c1]
      rw [zwp_let, zckj (by omega) (by omega), zwp_let, Int.toNat_natCast, hf.1]
      by_cases c2 : f p = 10
      · rw [ifnn c2]
        exact go (by unfold isw; simp [c2])
      · rw [if_pos c2]
        refine hK σ h1 ?_
        rw [h2, hq]
        show (p : Int) = ((if isw (f p) = true then _ else p : Nat) : Int)
        rw [if_neg (by unfold isw; simp [c1, c2])]
theorem pR_scanWord_0 {f : Nat → Int} {L : Nat} (σ0 : Zm) (ht : tape f L σ0) (P : Int → Zm → Prop) (K : Zm → Zr) (q : Nat) (hK : ∀ σ', RS s5 σ0 σ' → zrd σ' 150 5 = (q : Int) → zwp (K σ') P) : ∀ (d m p : Nat) (σ : Zm), d < m → p + d = L → q = rn isl f d p → RS s5 σ0 σ → zrd σ 150 5 = (p : Int) → zwp (fR_scanWord_0 m σ K) P
  | 0, m + 1, p, σ, _, hp, hq, h1, h2 => by
    have t1 := tape_RS ht h1 (by unfold s5; omega)
    rw [fR_scanWord_0]
    simp only [zwp_let]
    rw [h2, t1.1, if_pos (by omega)]
    exact hK σ h1 (by rw [h2, hq]; rfl)
  | d + 1, m + 1, p, σ, hm, hp, hq, h1, h2 => by
    have t1 := tape_RS ht h1 (by unfold s5; omega)
    have hL := t1.2.1
    have hf := t1.2.2 p (by omega)
    rw [fR_scanWord_0]
    simp only [zwp_let]
    rw [h2, t1.1, if_neg (by omega), zwp_let, zckj (by omega) (by omega), zwp_let, Int.toNat_natCast, hf.1, zbi_eq (qR_isLetter σ (f p)), zw_b2]
    by_cases c1 : isl (f p) = true
    · rw [if_pos c1, if_neg (by decide)]
      rw [zwp_let, h2]
      refine RS_st (S := s5) rfl (fun σ1 r1 e1 => ?_)
      refine pR_scanWord_0 σ0 ht P K q hK d m (p + 1) σ1 (by omega) (by omega) ?_ (h1.tr r1) (by rw [e1, if_pos rfl, zwj (by omega) (by omega)]; omega)
      rw [hq]
      show (if isl (f p) = true then _ else _) = _
      rw [if_pos c1]
    · rw [if_neg c1, if_pos rfl]
      refine hK σ h1 ?_
      rw [h2, hq]
      show (p : Int) = ((if isl (f p) = true then _ else p : Nat) : Int)
      rw [if_neg c1]
def s58 (k : Nat) : Prop := k = 5 ∨ k = 8
theorem nmv_bd {f : Nat → Int} {s : Nat} : ∀ n : Nat, (∀ j, j < n → isd (f (s + j)) = true) → 0 ≤ nmv f s n ∧ nmv f s n ≤ 1000
  | 0, _ => ⟨Int.le_refl _, by show (0 : Int) ≤ 1000; decide⟩
  | n + 1, h => by
    have ih := nmv_bd (f := f) (s := s) n (fun j hj => h j (by omega))
    have hd := h n (by omega)
    unfold isd at hd
    simp only [decide_eq_true_eq] at hd
    unfold nmv
    omega
theorem pR_scanDigits_11 {f : Nat → Int} {L s : Nat} (σ0 : Zm) (ht : tape f L σ0) (q : Nat) : ∀ (d m n : Nat) (σ : Zm), d < m → s + n + d = L → q = rn isd f d (s + n) → (∀ j, j < n → isd (f (s + j)) = true) → RS s58 σ0 σ → zrd σ 150 5 = ((s + n : Nat) : Int) → zrd σ 150 8 = nmv f s n → zwp (fR_scanDigits_11 m σ) (fun _ σ' => RS s58 σ0 σ' ∧ zrd σ' 150 5 = (q : Int) ∧ zrd σ' 150 8 = nmv f s (q - s))
  | 0, m + 1, n, σ, _, hp, hq, hd, h1, h2, h3 => by
    have t1 := tape_RS ht h1 (by unfold s58; omega)
    rw [fR_scanDigits_11]
    simp only [zwp_let]
    have hq' : q = s + n := hq
    rw [h2, t1.1, if_pos (by omega), zwp_some]
    exact ⟨h1, by rw [h2, hq'], by rw [h3, hq', show s + n - s = n by omega]⟩
  | d + 1, m + 1, n, σ, hm, hp, hq, hd, h1, h2, h3 => by
    have t1 := tape_RS ht h1 (by unfold s58; omega)
    have hL := t1.2.1
    have hf := t1.2.2 (s + n) (by omega)
    have hnb := nmv_bd n hd
    rw [fR_scanDigits_11]
    simp only [zwp_let]
    rw [h2, t1.1, if_neg (by omega), zwp_let, zckj (by omega) (by omega), zwp_let, Int.toNat_natCast, hf.1, zbi_eq (qR_isDigit σ (f (s + n))), zw_b2]
    by_cases c1 : isd (f (s + n)) = true
    · rw [if_pos c1, if_neg (by decide)]
      have hd1 : 48 ≤ f (s + n) ∧ f (s + n) ≤ 57 := by unfold isd at c1; simpa using c1
      rw [zwp_let, zwp_let, h2, zckj (by omega) (by omega), zwp_let, Int.toNat_natCast, hf.1, h3, zwp_let, zwj (a := nmv f s n * 10 + f (s + n) - 48) (by omega) (by omega)]
      refine RS_st (S := s58) (Or.inr rfl) (fun σ1 r1 e1 => ?_)
      rw [zwp_let, e1 5, if_neg (by decide), h2]
      refine RS_st (S := s58) (Or.inl rfl) (fun σ2 r2 e2 => ?_)
      refine pR_scanDigits_11 σ0 ht q d m (n + 1) σ2 (by omega) (by omega) ?_ (fun j hj => ?_) ((h1.tr r1).tr r2) (by rw [e2, if_pos rfl, zwj (by omega) (by omega)]; omega) ?_
      · rw [hq]
        show (if isd (f (s + n)) = true then _ else _) = _
        rw [if_pos c1]
        rfl
      · by_cases z : j = n
        · rw [z]; exact c1
        · exact hd j (by omega)
      · rw [e2, if_neg (by decide), e1, if_pos rfl]
        exact zwj (by omega) (by omega)
    · rw [if_neg c1, if_pos rfl, zwp_some]
      have hq' : q = s + n := by
        rw [hq]
        show (if isd (f (s + n)) = true then _ else s + n) = s + n
        rw [if_neg c1]
      exact ⟨h1, by rw [h2, hq'], by rw [h3, hq', show s + n - s = n by omega]⟩
/-! the class's words -/
theorem pk_inj (a b : Nat → Int) : ∀ (n m : Nat), (∀ j, j < n → 0 < a j ∧ a j < 256) → (∀ j, j < m → 0 < b j ∧ b j < 256) → (pk a 0 n = pk b 0 m ↔ n = m ∧ ∀ j, j < n → a j = b j)
  | 0, 0, _, _ => ⟨fun _ => ⟨rfl, fun j hj => by omega⟩, fun _ => rfl⟩
  | 0, m + 1, _, hb => by
    have hm := hb m (by omega)
    have e : pk b 0 (m + 1) = pk b 0 m * 256 + (b (0 + m)).toNat := rfl
    rw [Nat.zero_add] at e
    constructor
    · intro h
      have h0 : pk a 0 0 = 0 := rfl
      omega
    · intro h
      exact absurd h.1 (by omega)
  | n + 1, 0, ha, _ => by
    have hm := ha n (by omega)
    have e : pk a 0 (n + 1) = pk a 0 n * 256 + (a (0 + n)).toNat := rfl
    rw [Nat.zero_add] at e
    constructor
    · intro h
      have h0 : pk b 0 0 = 0 := rfl
      omega
    · intro h
      exact absurd h.1 (by omega)
  | n + 1, m + 1, ha, hb => by
    have ih := pk_inj a b n m (fun j hj => ha j (by omega)) (fun j hj => hb j (by omega))
    have h1 := ha n (by omega)
    have h2 := hb m (by omega)
    have ea : pk a 0 (n + 1) = pk a 0 n * 256 + (a (0 + n)).toNat := rfl
    have eb : pk b 0 (m + 1) = pk b 0 m * 256 + (b (0 + m)).toNat := rfl
    rw [Nat.zero_add] at ea eb
    constructor
    · intro h
      have h3 : pk a 0 n = pk b 0 m := by omega
      have h4 : (a n).toNat = (b m).toNat := by omega
      obtain ⟨i1, i2⟩ := ih.1 h3
      refine ⟨by omega, fun j hj => ?_⟩
      by_cases c : j = n
      · rw [c]
        rw [← i1] at h4
        have := hb n (by omega)
        omega
      · exact i2 j (by omega)
    · rintro ⟨i1, i2⟩
      have i3 : n = m := by omega
      subst i3
      have h3 := ih.2 ⟨rfl, fun j hj => i2 j (by omega)⟩
      have h4 := i2 n (by omega)
      rw [ea, eb, h3, h4]
theorem pk_sh (f : Nat → Int) (s : Nat) : ∀ n, pk f s n = pk (fun j => f (s + j)) 0 n
  | 0 => rfl
  | n + 1 => by
    show pk f s n * 256 + (f (s + n)).toNat = pk (fun j => f (s + j)) 0 n * 256 + (f (s + (0 + n))).toNat
    rw [pk_sh f s n, Nat.zero_add]
theorem rn_all (q : Int → Bool) (f : Nat → Int) : ∀ d p j, p ≤ j → j < rn q f d p → q (f j) = true
  | 0, p, j, h1, h2 => by
    have e : rn q f 0 p = p := rfl
    omega
  | d + 1, p, j, h1, h2 => by
    unfold rn at h2
    by_cases c : q (f p) = true
    · rw [if_pos c] at h2
      by_cases z : j = p
      · rw [z]; exact c
      · exact rn_all q f d (p + 1) j (by omega) h2
    · rw [if_neg c] at h2
      omega
/-- a word of the table: where it starts, how long it is -/
def wtc : List (Nat × Nat) := [(0, 4), (5, 4), (10, 5), (16, 6), (23, 4), (28, 2), (31, 3), (35, 3), (39, 3), (43, 3), (47, 4), (52, 5), (58, 3), (62, 4), (67, 5), (73, 4), (78, 5), (84, 4), (89, 4), (94, 5), (100, 4), (105, 6), (112, 6), (119, 3), (123, 4), (128, 7), (136, 7), (144, 4), (149, 5)]
theorem wtc_ok : ∀ k : Nat, k < 29 → (wtc.getD k (0, 0)).1 + (wtc.getD k (0, 0)).2 < 155 ∧ (wtc.getD k (0, 0)).2 ≤ 7 ∧ (∀ j : Nat, j < (wtc.getD k (0, 0)).2 → 65 ≤ zWc ((wtc.getD k (0, 0)).1 + j) ∧ zWc ((wtc.getD k (0, 0)).1 + j) ≤ 122) ∧ zWc ((wtc.getD k (0, 0)).1 + (wtc.getD k (0, 0)).2) = 32 ∧ pk (fun j => zWc ((wtc.getD k (0, 0)).1 + j)) 0 (wtc.getD k (0, 0)).2 = wtb.getD k 0 ∧ wtb.getD k 0 ≠ 0 ∧ (k < 28 → (wtc.getD (k + 1) (0, 0)).1 = (wtc.getD k (0, 0)).1 + (wtc.getD k (0, 0)).2 + 1) ∧ (k = 28 → (wtc.getD k (0, 0)).1 + (wtc.getD k (0, 0)).2 + 1 = 155) := by decide +kernel
/-- one word of the table is held against the tape -/
theorem pR_word_in {f : Nat → Int} {L s e : Nat} (σ : Zm) (ht : tape f L σ) (h6 : zrd σ 150 6 = (s : Int)) (h5 : zrd σ 150 5 = (e : Int)) (hse : s ≤ e) (he : e ≤ L) (k : Nat) (hk : k < 29) (i n : Nat) (hin : i + n < 155) (hc : ∀ j, j < n → 65 ≤ zWc (i + j) ∧ zWc (i + j) ≤ 122) (hsp : zWc (i + n) = 32) : ∀ (d m j : Nat) (b : Prop) (hb : Decidable b), d + 1 < m → j + d = n → (b ↔ (∀ y, y < j → s + y < e ∧ f (s + y) = zWc (i + y))) → fR_wordNumber_12 m (k : Int) ((s + j : Nat) : Int) (if b then 1 else 0) ((i + j : Nat) : Int) σ = if (∀ y, y < n → s + y < e ∧ f (s + y) = zWc (i + y)) ∧ s + n = e then some ((k : Int), σ) else fR_wordNumber_12 (m - d - 1) ((k + 1 : Nat) : Int) (s : Int) 1 ((i + n + 1 : Nat) : Int) σ
  | 0, m + 1, j, b, hb, hm, hj, hbb => by
    have : j = n := by omega
    subst this
    have hL := ht.2.1
    rw [fR_wordNumber_12]
    dsimp only [zlet]
    rw [if_neg (by omega), zckj (by omega) (by omega), Int.toNat_natCast, hsp, ifnn rfl, show zw (((i + j : Nat) : Int) + 1) = ((i + j + 1 : Nat) : Int) by rw [zwj (by omega) (by omega)]; omega, h6, h5, show m + 1 - 0 - 1 = m by omega]
    by_cases c : b
    · have hb2 := hbb.1 c
      rw [if_pos c, if_neg (by decide)]
      by_cases c2 : s + j = e
      · rw [ifnn (by omega), if_pos ⟨hb2, c2⟩]
      · rw [if_pos (by omega), if_neg (fun z => c2 z.2), show zw ((k : Int) + 1) = ((k + 1 : Nat) : Int) by rw [zwj (by omega) (by omega)]; omega]
    · rw [if_neg c, if_pos rfl, if_neg (fun z => c (hbb.2 z.1)), show zw ((k : Int) + 1) = ((k + 1 : Nat) : Int) by rw [zwj (by omega) (by omega)]; omega]
  | d + 1, m + 1, j, b, hb, hm, hj, hbb => by
    have hL := ht.2.1
    have hcj := hc j (by omega)
    have ih := fun (b' : Prop) (hb' : Decidable b') => pR_word_in σ ht h6 h5 hse he k hk i n hin hc hsp d m (j + 1) b' hb' (by omega) (by omega)
    rw [show m + 1 - (d + 1) - 1 = m - d - 1 by omega]
    rw [fR_wordNumber_12]
    dsimp only [zlet]
    rw [if_neg (by omega), zckj (by omega) (by omega), Int.toNat_natCast, if_pos (show ¬ zWc (i + j) = 32 by omega), show zw (((i + j : Nat) : Int) + 1) = ((i + (j + 1) : Nat) : Int) by rw [zwj (by omega) (by omega)]; omega, show zw (((s + j : Nat) : Int) + 1) = ((s + (j + 1) : Nat) : Int) by rw [zwj (by omega) (by omega)]; omega, h5]
    have no : ¬ (b ∧ s + j < e ∧ f (s + j) = zWc (i + j)) → fR_wordNumber_12 m (k : Int) ((s + (j + 1) : Nat) : Int) 0 ((i + (j + 1) : Nat) : Int) σ = if (∀ y, y < n → s + y < e ∧ f (s + y) = zWc (i + y)) ∧ s + n = e then some ((k : Int), σ) else fR_wordNumber_12 (m - d - 1) ((k + 1 : Nat) : Int) (s : Int) 1 ((i + n + 1 : Nat) : Int) σ := by
      intro hno
      have := ih False inferInstance ⟨fun z => z.elim, fun z => hno ⟨hbb.2 (fun y hy => z y (by omega)), z j (by omega)⟩⟩
      rw [if_neg (fun z => z)] at this
      exact this
    by_cases c : b
    · rw [if_pos c, if_neg (by decide)]
      by_cases c2 : s + j < e
      · have hf := ht.2.2 (s + j) (by omega)
        rw [if_neg (by omega), zckj (by omega) (by omega), Int.toNat_natCast, hf.1]
        by_cases c3 : f (s + j) = zWc (i + j)
        · rw [ifnn c3]
          have := ih True inferInstance ⟨fun _ y hy => by
            by_cases z : y = j
            · rw [z]; exact ⟨c2, c3⟩
            · exact hbb.1 c y (by omega), fun _ => trivial⟩
          rw [if_pos trivial] at this
          exact this
        · rw [if_pos c3]
          exact no (fun z => c3 z.2.2)
      · rw [if_pos (by omega)]
        exact no (fun z => c2 z.2.1)
    · rw [if_neg c, if_pos rfl]
      exact no (fun z => c z.1)
/-- the words of the table from the k-th on -/
theorem wfn_at (v : Nat) : ∀ (d k : Nat), k + d = 29 → wfn v (wtb.drop k) (k : Int) = if d = 0 then -1 else if v = wtb.getD k 0 then (k : Int) else wfn v (wtb.drop (k + 1)) ((k + 1 : Nat) : Int)
  | 0, k, h => by
    have : k = 29 := by omega
    subst this
    rfl
  | d + 1, k, h => by
    have hl : wtb.length = 29 := by decide
    rw [if_neg (by omega), List.drop_eq_getElem_cons (by omega : k < wtb.length)]
    show (if v = wtb[k] then (k : Int) else wfn v (wtb.drop (k + 1)) ((k : Int) + 1)) = _
    rw [List.getD_eq_getElem?_getD, List.getElem?_eq_getElem (by omega), Option.getD_some]
    congr 1
theorem wv_iff {f : Nat → Int} {s e k : Nat} (hse : s < e) (hl : ∀ j, s ≤ j → j < e → isl (f j) = true) (hk : k < 29) : wv f s e = wtb.getD k 0 ↔ (∀ y, y < (wtc.getD k (0, 0)).2 → s + y < e ∧ f (s + y) = zWc ((wtc.getD k (0, 0)).1 + y)) ∧ s + (wtc.getD k (0, 0)).2 = e := by
  obtain ⟨o1, o2, o3, o4, o5, o6, _⟩ := wtc_ok k hk
  have hlt : ∀ j, s ≤ j → j < e → 0 < f j ∧ f j < 256 := by
    intro j h1 h2
    have := hl j h1 h2
    unfold isl at this
    simp only [Bool.or_eq_true, decide_eq_true_eq] at this
    omega
  unfold wv
  by_cases c : e - s ≤ 7
  · rw [if_pos c, pk_sh, ← o5, pk_inj _ _ _ _ (fun j hj => hlt (s + j) (by omega) (by omega)) (fun j hj => by have := o3 j hj; omega)]
    constructor
    · rintro ⟨h1, h2⟩
      exact ⟨fun y hy => ⟨by omega, h2 y (by omega)⟩, by omega⟩
    · rintro ⟨h1, h2⟩
      exact ⟨by omega, fun j hj => (h1 j (by omega)).2⟩
  · rw [if_neg c]
    constructor
    · intro h
      exact absurd h.symm o6
    · rintro ⟨h1, h2⟩
      omega
theorem pR_words {f : Nat → Int} {L s e : Nat} (σ : Zm) (ht : tape f L σ) (h6 : zrd σ 150 6 = (s : Int)) (h5 : zrd σ 150 5 = (e : Int)) (hse : s < e) (he : e ≤ L) (hl : ∀ j, s ≤ j → j < e → isl (f j) = true) : ∀ (d k m : Nat), k + d = 29 → 10 * d + 2 ≤ m → fR_wordNumber_12 m (k : Int) (s : Int) 1 ((if d = 0 then 155 else (wtc.getD k (0, 0)).1 : Nat) : Int) σ = some (wfn (wv f s e) (wtb.drop k) (k : Int), σ)
  | 0, k, m, hk, hm => by
    obtain ⟨m', rfl⟩ : ∃ m', m = m' + 1 := ⟨m - 1, by omega⟩
    rw [wfn_at _ 0 k hk, if_pos rfl, if_pos rfl, fR_wordNumber_12]
    dsimp only [zlet]
    rw [if_pos (by decide)]
  | d + 1, k, m, hk, hm => by
    obtain ⟨o1, o2, o3, o4, o5, o6, o7, o8⟩ := wtc_ok k (by omega)
    have hin := pR_word_in σ ht h6 h5 (by omega) he k (by omega : k < 29) _ _ o1 o3 o4 (wtc.getD k (0, 0)).2 m 0 True inferInstance (by omega) (by omega) ⟨fun _ y hy => by omega, fun _ => trivial⟩
    have hw := wv_iff (f := f) hse hl (show k < 29 by omega)
    rw [Nat.add_zero, Nat.add_zero, if_pos trivial] at hin
    rw [wfn_at _ (d + 1) k hk, if_neg (by omega), if_neg (by omega), hin]
    by_cases c : wv f s e = wtb.getD k 0
    · rw [if_pos c, if_pos (hw.1 c)]
    · rw [if_neg c, if_neg (fun z => c (hw.2 z))]
      have ih := pR_words σ ht h6 h5 hse he hl d (k + 1) (m - (wtc.getD k (0, 0)).2 - 1) (by omega) (by omega)
      rw [← ih]
      congr 1
      by_cases z : d = 0
      · rw [if_pos z]
        have := o8 (by omega)
        omega
      · rw [if_neg z]
        have := o7 (by omega)
        omega
theorem qR_wordNumber {f : Nat → Int} {L s e : Nat} (σ : Zm) (ht : tape f L σ) (h6 : zrd σ 150 6 = (s : Int)) (h5 : zrd σ 150 5 = (e : Int)) (hse : s < e) (he : e ≤ L) (hl : ∀ j, s ≤ j → j < e → isl (f j) = true) : fR_wordNumber σ = some (wnm (wv f s e), σ) := by
  unfold fR_wordNumber
  dsimp only [zlet]
  rw [h6]
  exact pR_words σ ht h6 h5 hse he hl 29 0 5000 (by omega) (by omega)

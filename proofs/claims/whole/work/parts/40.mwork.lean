/-! MY OWN: the reference's texts; what its work comes to -/
def eno (c : Int) : Int := if c < 1000 then 0 else if c < 2000 then 1 else if c = 2014 then 2 else if c = 2010 then 3 else if c = 2011 then 4 else if c = 2012 then 5 else if c = 2013 then 6 else if c = 2004 then 10 else if c = 2005 then 11 else if c = 2006 then 12 else if c = 2007 then 13 else if c = 2008 then 14 else if c = 2009 then 15 else if c = 2003 then 20 else if c = 2002 then 21 else 22
/-- a name's number, as the reference has it -/
def nm (n : Nat) : Nat := if n ≤ 7 then n else if n = 8 then 12 else if n ≤ 12 then n - 1 else n
def eno2 (c : Int) : Int := if c < 1000 then c else ((nm (c - 1000).toNat : Nat) : Int)
def sgm (f : Nat → Int) : Nat → List Int → Prop
  | _, [] => True
  | i, c :: l => (f i = eno c ∧ (c < 2000 → f (i + 1) = eno2 c)) ∧ sgm f (i + 2) l
theorem sgm_cg {f g : Nat → Int} : ∀ (l : List Int) (i : Nat), (∀ k, i ≤ k → k < i + 2 * l.length → f k = g k) → sgm f i l → sgm g i l
  | [], _, _, _ => trivial
  | x :: S, i, h, hs => by
    have h0 := h i (by omega) (by simp only [List.length_cons]; omega)
    have h1 := h (i + 1) (by omega) (by simp only [List.length_cons]; omega)
    refine ⟨?_, sgm_cg S (i + 2) (fun k hk hk2 => h k (by omega) (by simp only [List.length_cons]; omega)) hs.2⟩
    rw [← h0, ← h1]
    exact hs.1
def TMk (σ : Zm) (x k : Nat) (c : Cl) : Prop := zrd σ 276 (900 * x + 1 + 5 * k) = c.1 + 1 ∧ (∃ b : Nat, zrd σ 276 (900 * x + 1 + 5 * k + 1) = (b : Int) ∧ zrd σ 276 (900 * x + 1 + 5 * k + 2) = ((b + c.2.2.length : Nat) : Int) ∧ b + c.2.2.length ≤ 300 ∧ sgm (zrd σ 276) (900 * x + 60 + 2 * b) c.2.2) ∧ (c.1 < 2 → ∃ a : Nat, zrd σ 276 (900 * x + 1 + 5 * k + 3) = (a : Int) ∧ zrd σ 276 (900 * x + 1 + 5 * k + 4) = ((a + c.2.1.length : Nat) : Int) ∧ a + c.2.1.length ≤ 300 ∧ sgm (zrd σ 276) (900 * x + 60 + 2 * a) c.2.1)
def TMl (σ : Zm) (x : Nat) : List Cl → Nat → Prop
  | [], _ => True
  | c :: T, k => TMk σ x k c ∧ TMl σ x T (k + 1)
def TRm (σ : Zm) (x : Nat) (T : List Cl) : Prop := zrd σ 276 (900 * x) = (T.length : Int) ∧ T.length ≤ 10 ∧ TMl σ x T 0
theorem TMk_cg {σ σ1 : Zm} {x k : Nat} {c : Cl} (hk : k < 10) (h : ∀ j, 900 * x ≤ j → j < 900 * x + 900 → zrd σ1 276 j = zrd σ 276 j) (hT : TMk σ x k c) : TMk σ1 x k c := by
  obtain ⟨h1, ⟨b, b1, b2, b3, b4⟩, h3⟩ := hT
  refine ⟨?_, ⟨b, ?_, ?_, b3, ?_⟩, fun hc => ?_⟩
  · rw [h _ (by omega) (by omega)]; exact h1
  · rw [h _ (by omega) (by omega)]; exact b1
  · rw [h _ (by omega) (by omega)]; exact b2
  · exact sgm_cg _ _ (fun j h1 h2 => (h j (by omega) (by omega)).symm) b4
  · obtain ⟨a, a1, a2, a3, a4⟩ := h3 hc
    refine ⟨a, ?_, ?_, a3, ?_⟩
    · rw [h _ (by omega) (by omega)]; exact a1
    · rw [h _ (by omega) (by omega)]; exact a2
    · exact sgm_cg _ _ (fun j h1 h2 => (h j (by omega) (by omega)).symm) a4
theorem TMl_cg {σ σ1 : Zm} {x : Nat} (h : ∀ j, 900 * x ≤ j → j < 900 * x + 900 → zrd σ1 276 j = zrd σ 276 j) : ∀ (T : List Cl) (k : Nat), k + T.length ≤ 10 → TMl σ x T k → TMl σ1 x T k
  | [], _, _, _ => trivial
  | c :: T, k, hk, hT => by
    simp only [List.length_cons] at hk
    exact ⟨TMk_cg (by omega) h hT.1, TMl_cg h T (k + 1) (by omega) hT.2⟩
theorem TRm_cg {σ σ1 : Zm} {x : Nat} {T : List Cl} (h : ∀ j, 900 * x ≤ j → j < 900 * x + 900 → zrd σ1 276 j = zrd σ 276 j) (hT : TRm σ x T) : TRm σ1 x T := by
  refine ⟨?_, hT.2.1, TMl_cg h T 0 (by have := hT.2.1; omega) hT.2.2⟩
  rw [h _ (by omega) (by omega)]
  exact hT.1
theorem TRm_fo {D : Nat → Prop} {σ σ1 : Zm} {x : Nat} {T : List Cl} (hf : zfo D σ σ1) (hD : ¬ D 276) (hT : TRm σ x T) : TRm σ1 x T := TRm_cg (fun j _ _ => hf.rd hD j) hT
theorem sk_pushl {σ : Zm} {o : Nat} {S : List Int} {v x : Int} (h : sk (zrl σ o) S) (hx : zx v = x) : sk (zrl (zsl σ o S.length v) o) (x :: S) := by
  refine ⟨?_, ?_⟩
  · rw [zrl_sl, if_pos ⟨rfl, rfl⟩, hx]
  · refine sk_cg S (fun k hk => ?_) h
    rw [zrl_sl, if_neg (fun q => by omega)]
theorem zxj {a : Int} (h : -9000000000000 ≤ a) (h' : a < 9000000000000) : zx a = a := zx_id (by omega) (by omega)
theorem qM_clip (σ : Zm) (z : Int) (h : -9000000000000 ≤ z ∧ z ≤ 9000000000000) : fM_clip σ z = some (cl z, σ) := by
  obtain ⟨q1, -, -, -, -⟩ := zlc_le (a := z) (b := 1000000) (by omega) (by omega)
  obtain ⟨-, q2, -, -, -⟩ := zlc_le (a := z) (b := -1000000) (by omega) (by omega)
  unfold fM_clip cl
  by_cases d1 : 1000000 < z
  · rw [if_neg (fun q => by have := q1.mp q; omega), if_pos d1]
  · rw [if_pos (q1.mpr (by omega)), if_neg d1]
    by_cases d2 : z < -1000000
    · rw [if_neg (fun q => by have := q2.mp q; omega), if_pos d2]
    · rw [if_pos (q2.mpr (by omega)), if_neg d2]
theorem qM_two (σ : Zm) (c x y : Int) (hc : 2010 ≤ c ∧ c ≤ 2013) (hx : -1000000 ≤ x ∧ x ≤ 1000000) (hy : -1000000 ≤ y ∧ y ≤ 1000000) : fM_two σ (eno c) x y = some (ar c x y, σ) := by
  have hm := mul_bd hx hy
  have hd := tdiv_bd (y := y) hx
  have h1 := cl_bd
  have he : eno c = c - 2007 := by
    have hcc : c = 2010 ∨ c = 2011 ∨ c = 2012 ∨ c = 2013 := by omega
    rcases hcc with rfl | rfl | rfl | rfl <;> rfl
  unfold fM_two ar
  rw [he]
  by_cases c1 : c = 2010
  · rw [if_pos (by omega), if_pos c1, zxj (by omega) (by omega), qM_clip σ _ (by omega), zbl_some, zxj (by have := h1 (x + y); omega) (by have := h1 (x + y); omega)]
  · rw [if_neg (by omega), if_neg c1]
    by_cases c2 : c = 2011
    · rw [if_pos (by omega), if_pos c2, zxj (by omega) (by omega), qM_clip σ _ (by omega), zbl_some, zxj (by have := h1 (x - y); omega) (by have := h1 (x - y); omega)]
    · rw [if_neg (by omega), if_neg c2]
      by_cases c3 : c = 2012
      · rw [if_pos (by omega), if_pos c3, zxj (by omega) (by omega), qM_clip σ _ (by omega), zbl_some, zxj (by have := h1 (x * y); omega) (by have := h1 (x * y); omega)]
      · rw [if_neg (by omega), if_neg c3]
        have hz := (zlc_le (a := y) (b := 0) (by omega) (by omega)).2.2.2.2
        by_cases c4 : y = 0
        · rw [if_neg (by simpa using hz.mpr c4), if_pos c4]
        · rw [if_pos (fun q => c4 (hz.mp q)), if_neg c4]
          unfold zdv
          rw [if_neg c4, zxj (by omega) (by omega), qM_clip σ _ (by omega), zbl_some, zxj (by have := h1 (Int.tdiv x y); omega) (by have := h1 (Int.tdiv x y); omega)]
theorem qM_isAsked (σ : Zm) (c x y : Int) (hc : 2004 ≤ c ∧ c ≤ 2009) (hx : -1000000 ≤ x ∧ x ≤ 1000000) (hy : -1000000 ≤ y ∧ y ≤ 1000000) : fM_isAsked σ (eno c) x y = some (cm c x y, σ) := by
  obtain ⟨h1, h2, h3, h4, h5⟩ := zlc_le (a := x) (b := y) (by omega) (by omega)
  unfold fM_isAsked cm
  have hcc : c = 2004 ∨ c = 2005 ∨ c = 2006 ∨ c = 2007 ∨ c = 2008 ∨ c = 2009 := by omega
  rcases hcc with rfl | rfl | rfl | rfl | rfl | rfl
  · rw [show eno 2004 = 10 from rfl]; grind
  · rw [show eno 2005 = 11 from rfl]; grind
  · rw [show eno 2006 = 12 from rfl]; grind
  · rw [show eno 2007 = 13 from rfl]; grind
  · rw [show eno 2008 = 14 from rfl]; grind
  · rw [show eno 2009 = 15 from rfl]; grind
def oW (q : Nat) : Prop := q = 280 ∨ q = 281
theorem nm_lt {n : Nat} (h : n < 21) : nm n < 21 := by unfold nm; split; omega; split; omega; split <;> omega
theorem pM_work_19 (x : Nat) (hx : x < 6) (E : Nat → Int) (hE : ∀ k, -1000000 ≤ E k ∧ E k ≤ 1000000) (to : Nat) (hto : to ≤ 300) (v' t' : Nat) (P : Int → Zm → Prop) (σ0 : Zm) :
    ∀ (l : List Int) (m i : Nat) (σ : Zm) (V T : List Int), l.length < m → i + l.length = to → zfo oW σ0 σ → (∀ c ∈ l, 1000 ≤ c → c < 1021 → zrd σ0 279 (nm (c - 1000).toNat) = E (c - 1000).toNat) → sgm (zrd σ0 276) (900 * x + 60 + 2 * i) l → wt l V.length T.length v' t' → bdv V → bdt T → V.length + T.length ≤ i → sk (zrl σ 280) V → sk (zrd σ 281) T → (∀ σ' V' T', zfo oW σ0 σ' → V'.length = v' → T'.length = t' → sk (zrl σ' 280) V' → sk (zrd σ' 281) T' → (V', T') = ev E l (V, T) → P 0 σ') → zwp (fM_work_19 m (to : Int) ((900 * x + 60 : Nat) : Int) (V.length : Int) (T.length : Int) (i : Int) σ) P
  | [], m + 1, i, σ, V, T, _, hi, hf, hN, hs, hw, hV, hT, hle, hsv, hst, hk => by
    rw [fM_work_19]
    simp only [zwp_let]
    simp only [List.length_nil] at hi
    rw [if_pos (by omega), zwp_some]
    exact hk σ V T hf hw.1 hw.2 hsv hst rfl
  | c :: l, m + 1, i, σ, V, T, hm, hi, hf, hN, hs, hw, hV, hT, hle, hsv, hst, hk => by
    simp only [List.length_cons] at hi hm
    obtain ⟨n1, n2, n3⟩ := ev1_wt hE hw hV hT
    have e276 : zrd σ 276 = zrd σ0 276 := by funext j; exact hf.rd (by unfold oW; omega) j
    have hc1 := hs.1.1
    have hc2 := hs.1.2
    have hnx : zw ((i : Int) + 1) = ((i + 1 : Nat) : Int) := zwj (by omega) (by omega)
    have go : ∀ (σ1 : Zm), zfo oW σ0 σ1 → sk (zrl σ1 280) (ev1 E c (V, T)).1 → sk (zrd σ1 281) (ev1 E c (V, T)).2 → (ev1 E c (V, T)).1.length + (ev1 E c (V, T)).2.length ≤ i + 1 → zwp (fM_work_19 m (to : Int) ((900 * x + 60 : Nat) : Int) ((ev1 E c (V, T)).1.length : Int) ((ev1 E c (V, T)).2.length : Int) ((i + 1 : Nat) : Int) σ1) P := by
      intro σ1 h1 h2 h3 h4
      refine pM_work_19 x hx E hE to hto v' t' P σ0 l m (i + 1) σ1 _ _ (by omega) (by omega) h1 (fun y hy => hN y (List.mem_cons_of_mem _ hy)) ?_ n1 n2 n3 h4 h2 h3 hk
      rw [show 900 * x + 60 + 2 * (i + 1) = 900 * x + 60 + 2 * i + 2 by omega]
      exact hs.2
    unfold wt at hw
    rw [fM_work_19]
    simp only [zwp_let]
    have ei : zw (((900 * x + 60 : Nat) : Int) + 2 * (i : Int)) = ((900 * x + 60 + 2 * i : Nat) : Int) := by rw [zwj (by omega) (by omega)]; omega
    have ei2 : zw (((900 * x + 60 : Nat) : Int) + 2 * (i : Int) + 1) = ((900 * x + 60 + 2 * i + 1 : Nat) : Int) := by rw [zwj (by omega) (by omega)]; omega
    rw [if_neg (by omega), ei, ei2, zckj (by omega) (by omega), zwp_let, zckj (by omega) (by omega), zwp_let, Int.toNat_natCast (900 * x + 60 + 2 * i), Int.toNat_natCast (900 * x + 60 + 2 * i + 1), e276, hc1, hnx]
    rcases hw with ⟨h1, h2, h3⟩ | ⟨h1, h2, h3⟩ | ⟨h1, h2, h3, h4⟩ | ⟨h1, h2, h3, h4⟩ | ⟨h1, h2, h3, h4⟩ | ⟨h1, h2, h3, h4⟩
    · have hc2' := hc2 (by omega)
      have ez : zw ((V.length : Int) + 1) = ((V.length + 1 : Nat) : Int) := zwj (by omega) (by omega)
      by_cases c1 : c < 1000
      · have e0 : eno c = 0 := by unfold eno; rw [if_pos c1]
        have e02 : eno2 c = c := by unfold eno2; rw [if_pos c1]
        rw [e0, if_neg (by decide), ifnn rfl, zckj (by omega) (by omega), zwp_let, hc2', e02, ez]
        have e : ev1 E c (V, T) = (c :: V, T) := by unfold ev1; rw [if_pos c1]
        rw [e] at go
        exact go (zsl σ 280 V.length c) (hf.sl (Or.inl rfl)) (sk_pushl hsv (zxj (by omega) (by omega))) (by rw [show zrd (zsl σ 280 V.length c) 281 = zrd σ 281 from rfl]; exact hst) (by simp; omega)
      · have e0 : eno c = 1 := by unfold eno; rw [if_neg c1, if_pos (by omega)]
        have e02 : eno2 c = ((nm (c - 1000).toNat : Nat) : Int) := by unfold eno2; rw [if_neg c1]
        have hnl := nm_lt (n := (c - 1000).toNat) (by omega)
        have hb := hE (c - 1000).toNat
        rw [e0, if_neg (by decide), if_pos (by decide), hc2', e02, zckj (by omega) (by omega), zwp_let, zckj (by omega) (by omega), zwp_let, Int.toNat_natCast (nm (c - 1000).toNat), hf.rd (by unfold oW; omega), hN c List.mem_cons_self (by omega) (by omega), ez]
        have e : ev1 E c (V, T) = (E (c - 1000).toNat :: V, T) := by unfold ev1; rw [if_neg c1, if_pos (by omega)]
        rw [e] at go
        rw [Int.toNat_natCast]
        exact go (zsl σ 280 V.length (E (c - 1000).toNat)) (hf.sl (Or.inl rfl)) (sk_pushl hsv (zxj (by omega) (by omega))) (by rw [show zrd (zsl σ 280 V.length (E (c - 1000).toNat)) 281 = zrd σ 281 from rfl]; exact hst) (by simp; omega)
    · have e0 : eno c = 2 := by rw [h1]; rfl
      rw [e0, if_pos (by decide), ifnn (by first | trivial | rfl)]
      match V, h2, hV, hsv, hle, go with
      | y :: V, h2, hV, hsv, hle, go =>
        have hb := hV y (by simp)
        have e : ev1 E c (y :: V, T) = (-y :: V, T) := by unfold ev1; rw [if_neg (by omega), if_neg (by omega), if_pos h1]
        rw [e] at go
        simp only [List.length_cons] at hle go ⊢
        have e5 : zw (((V.length + 1 : Nat) : Int) - 1) = (V.length : Int) := by rw [zwj (by omega) (by omega)]; omega
        rw [e5, zckj (by omega) (by omega), zwp_let, zckj (by omega) (by omega), zwp_let, Int.toNat_natCast, hsv.1]
        exact go (zsl σ 280 V.length (-y)) (hf.sl (Or.inl rfl)) (sk_pushl hsv.2 (zxj (by omega) (by omega))) (by rw [show zrd (zsl σ 280 V.length (-y)) 281 = zrd σ 281 from rfl]; exact hst) (by omega)
    · have he : 3 ≤ eno c ∧ eno c ≤ 6 := by
        have hcc : c = 2010 ∨ c = 2011 ∨ c = 2012 ∨ c = 2013 := by omega
        rcases hcc with rfl | rfl | rfl | rfl <;> decide
      rw [if_pos (by omega), if_pos (by omega), if_neg (by omega)]
      match V, h3, hV, hsv, hle, go with
      | y :: z :: V, h3, hV, hsv, hle, go =>
        have hbx := hV z (by simp)
        have hby := hV y (by simp)
        have hab := ar_bd c z y
        have e : ev1 E c (y :: z :: V, T) = (ar c z y :: V, T) := by unfold ev1; rw [if_neg (by omega), if_neg (by omega), if_neg (by omega), if_pos (by omega)]
        rw [e] at go
        simp only [List.length_cons] at hle go ⊢
        have e4 : zw (((V.length + 1 + 1 : Nat) : Int) + (-1)) = ((V.length + 1 : Nat) : Int) := by rw [zwj (by omega) (by omega)]; omega
        have e5 : zw (((V.length + 1 + 1 : Nat) : Int) + (-1) - 1) = (V.length : Int) := by rw [zwj (by omega) (by omega)]; omega
        rw [e4, e5, zckj (by omega) (by omega), zwp_let, zckj (by omega) (by omega), zwp_let, Int.toNat_natCast, Int.toNat_natCast, show zrl σ 280 (V.length + 1) = y from hsv.1, hsv.2.1, qM_two σ c z y (by omega) hbx hby, zbl_some, zxj (by omega) (by omega), zckj (by omega) (by omega), zwp_let]
        exact go (zsl σ 280 V.length (ar c z y)) (hf.sl (Or.inl rfl)) (sk_pushl hsv.2.2 (zxj (by omega) (by omega))) (by rw [show zrd (zsl σ 280 V.length (ar c z y)) 281 = zrd σ 281 from rfl]; exact hst) (by omega)
    · have he : 10 ≤ eno c ∧ eno c ≤ 15 := by
        have hcc : c = 2004 ∨ c = 2005 ∨ c = 2006 ∨ c = 2007 ∨ c = 2008 ∨ c = 2009 := by omega
        rcases hcc with rfl | rfl | rfl | rfl | rfl | rfl <;> decide
      rw [if_pos (by omega), if_pos (by omega), if_pos (by omega), if_neg (by omega)]
      match V, h3, hV, hsv, hle, go with
      | [y, z], h3, hV, hsv, hle, go =>
        have hbx := hV z (by simp)
        have hby := hV y (by simp)
        have hcb := cm_01 c z y
        have hcw : zw (cm c z y) = cm c z y := zwj (by omega) (by omega)
        have hzb : zb (cm c z y) = cm c z y := by rcases hcb with q | q <;> rw [q] <;> decide
        have e : ev1 E c ([y, z], T) = ([], cm c z y :: T) := by unfold ev1; rw [if_neg (by omega), if_neg (by omega), if_neg (by omega), if_neg (by omega), if_pos (by omega)]
        rw [e] at go
        simp only [List.length_cons, List.length_nil] at hle go ⊢
        have e4 : zw (((0 + 1 + 1 : Nat) : Int) + (-2)) = 0 := by decide
        have e5 : zw (((0 + 1 + 1 : Nat) : Int) + (-2) + 1) = 1 := by decide
        rw [e4, e5, zck_ok (by decide), zwp_let, zck_ok (by decide), zwp_let, show zrl σ 280 (1 : Int).toNat = y from hsv.1, show zrl σ 280 (0 : Int).toNat = z from hsv.2.1, zwp_bi, qM_isAsked σ c z y (by omega) hbx hby, zwp_some, hcw, hzb, zckj (by omega) (by omega), zwp_let, show zw ((T.length : Int) + 1) = ((T.length + 1 : Nat) : Int) from zwj (by omega) (by omega)]
        exact go (zst σ 281 T.length (cm c z y)) (hf.st (Or.inr rfl)) trivial (sk_push hst hcw) (by omega)
    · have e0 : eno c = 20 := by rw [h1]; rfl
      rw [e0, if_pos (by decide), if_pos (by decide), if_pos (by decide), if_pos (by decide), ifnn (by first | trivial | rfl)]
      match T, h3, hT, hst, hle, go with
      | b :: T, h3, hT, hst, hle, go =>
        have hb := hT b (by simp)
        have hV0 : V = [] := List.length_eq_zero_iff.mp h2
        subst hV0
        have e : ev1 E c ([], b :: T) = ([], (1 - b) :: T) := by unfold ev1; rw [if_neg (by omega), if_neg (by omega), if_neg (by omega), if_neg (by omega), if_neg (by omega), if_pos h1]
        rw [e] at go
        simp only [List.length_cons, List.length_nil] at hle go ⊢
        have e5 : zw (((T.length + 1 : Nat) : Int) - 1) = (T.length : Int) := by rw [zwj (by omega) (by omega)]; omega
        rw [e5, zckj (by omega) (by omega), zwp_let, Int.toNat_natCast, hst.1]
        rcases hb with rfl | rfl
        · rw [ifnn rfl, zckj (by omega) (by omega), zwp_let]
          exact go (zst σ 281 T.length 1) (hf.st (Or.inr rfl)) hsv (sk_push (x := 1 - 0) hst.2 (by decide)) (by omega)
        · rw [if_pos (by decide), zckj (by omega) (by omega), zwp_let]
          exact go (zst σ 281 T.length 0) (hf.st (Or.inr rfl)) hsv (sk_push (x := 1 - 1) hst.2 (by decide)) (by omega)
    · have he : eno c = if c = 2002 then 21 else 22 := by rcases h1 with rfl | rfl <;> rfl
      match T, h3, hT, hst, hle, go with
      | b :: a :: T, h3, hT, hst, hle, go =>
        have hba := hT a (by simp)
        have hbb := hT b (by simp)
        have hV0 : V = [] := List.length_eq_zero_iff.mp h2
        subst hV0
        have e : ev1 E c ([], b :: a :: T) = ([], bo c a b :: T) := by unfold ev1; rw [if_neg (by omega), if_neg (by omega), if_neg (by omega), if_neg (by omega), if_neg (by omega), if_neg (by omega)]
        rw [e] at go
        simp only [List.length_cons, List.length_nil] at hle go ⊢
        have e4 : zw (((T.length + 1 + 1 : Nat) : Int) + (-1)) = ((T.length + 1 : Nat) : Int) := by rw [zwj (by omega) (by omega)]; omega
        have e5 : zw (((T.length + 1 + 1 : Nat) : Int) + (-1) - 1) = (T.length : Int) := by rw [zwj (by omega) (by omega)]; omega
        have fin : ∀ w : Int, w = bo c a b → zwp (fM_work_19 m (to : Int) ((900 * x + 60 : Nat) : Int) ((0 : Nat) : Int) ((T.length + 1 : Nat) : Int) ((i + 1 : Nat) : Int) (zst σ 281 T.length w)) P := by
          intro w hw
          have := bo_01 c a b
          exact go (zst σ 281 T.length w) (hf.st (Or.inr rfl)) hsv (sk_push hst.2.2 (by rw [hw]; exact zwj (by omega) (by omega))) (by omega)
        have ka : zrd σ 281 T.length = a := hst.2.1
        have kb : zrd σ 281 (T.length + 1) = b := hst.1
        rw [e4, e5]
        by_cases c2 : c = 2002
        · rw [if_pos c2] at he
          rw [he, if_pos (by decide), if_pos (by decide), if_pos (by decide), if_pos (by decide), if_pos (by decide), ifnn (by first | trivial | rfl), zckj (by omega) (by omega), zwp_let, Int.toNat_natCast, ka]
          by_cases d1 : a = 0
          · rw [if_pos d1, zckj (by omega) (by omega), zwp_let]
            exact fin 0 (by unfold bo; rw [if_neg (by omega), if_pos (Or.inl d1)])
          · rw [if_neg d1, zckj (by omega) (by omega), zwp_let, Int.toNat_natCast, kb]
            by_cases d2 : b = 0
            · rw [if_pos d2, zckj (by omega) (by omega), zwp_let]
              exact fin 0 (by unfold bo; rw [if_neg (by omega), if_pos (Or.inr d2)])
            · rw [if_neg d2, zckj (by omega) (by omega), zwp_let]
              exact fin 1 (by unfold bo; rw [if_neg (by omega), if_neg (by omega)])
        · rw [if_neg c2] at he
          rw [he, if_pos (by decide), if_pos (by decide), if_pos (by decide), if_pos (by decide), if_pos (by decide), if_pos (by decide), zckj (by omega) (by omega), zwp_let, Int.toNat_natCast, ka]
          by_cases d1 : a = 0
          · rw [ifnn d1, zckj (by omega) (by omega), zwp_let, Int.toNat_natCast, kb]
            by_cases d2 : b = 0
            · rw [if_pos d2, zckj (by omega) (by omega), zwp_let]
              exact fin 0 (by unfold bo; rw [if_pos (by omega), if_pos ⟨d1, d2⟩])
            · rw [if_neg d2, zckj (by omega) (by omega), zwp_let]
              exact fin 1 (by unfold bo; rw [if_pos (by omega), if_neg (by omega)])
          · rw [if_pos d1, zckj (by omega) (by omega), zwp_let]
            exact fin 1 (by unfold bo; rw [if_pos (by omega), if_neg (by omega)])

theorem qM_work_p {x : Nat} (hx : x < 6) (E : Nat → Int) (hE : ∀ k, -1000000 ≤ E k ∧ E k ≤ 1000000) (σ : Zm) (l : List Int) (i : Nat) (hi : i + l.length ≤ 300) (hN : ∀ c ∈ l, 1000 ≤ c → c < 1021 → zrd σ 279 (nm (c - 1000).toNat) = E (c - 1000).toNat) (hs : sgm (zrd σ 276) (900 * x + 60 + 2 * i) l) (hw : wt l 0 0 1 0) : zwp (fM_work σ (x : Int) (i : Int) ((i + l.length : Nat) : Int)) (fun _ σ' => zfo oW σ σ' ∧ zrl σ' 280 0 = evp E l) := by
  unfold fM_work
  rw [zwp_let, show zw (900 * (x : Int) + 60) = ((900 * x + 60 : Nat) : Int) by rw [zwj (by omega) (by omega)]; omega]
  refine pM_work_19 x hx E hE (i + l.length) hi 1 0 _ σ l 5000 i σ [] [] (by omega) rfl zfo.rf hN hs hw (by intro x hx; cases hx) (by intro x hx; cases hx) (by simp) trivial trivial (fun σ' V T hf hV hT hsv hst he => ?_)
  match V, hV, hsv, he with
  | [y], _, hsv, he =>
    refine ⟨hf, ?_⟩
    unfold evp
    rw [← he]
    exact hsv.1
theorem qM_work_c {x : Nat} (hx : x < 6) (E : Nat → Int) (hE : ∀ k, -1000000 ≤ E k ∧ E k ≤ 1000000) (σ : Zm) (l : List Int) (i : Nat) (hi : i + l.length ≤ 300) (hN : ∀ c ∈ l, 1000 ≤ c → c < 1021 → zrd σ 279 (nm (c - 1000).toNat) = E (c - 1000).toNat) (hs : sgm (zrd σ 276) (900 * x + 60 + 2 * i) l) (hw : wt l 0 0 0 1) : zwp (fM_work σ (x : Int) (i : Int) ((i + l.length : Nat) : Int)) (fun _ σ' => zfo oW σ σ' ∧ zrd σ' 281 0 = evc E l) := by
  unfold fM_work
  rw [zwp_let, show zw (900 * (x : Int) + 60) = ((900 * x + 60 : Nat) : Int) by rw [zwj (by omega) (by omega)]; omega]
  refine pM_work_19 x hx E hE (i + l.length) hi 0 1 _ σ l 5000 i σ [] [] (by omega) rfl zfo.rf hN hs hw (by intro x hx; cases hx) (by intro x hx; cases hx) (by simp) trivial trivial (fun σ' V T hf hV hT hsv hst he => ?_)
  match T, hT, hst, he with
  | [y], _, hst, he =>
    refine ⟨hf, ?_⟩
    unfold evc
    rw [← he]
    exact hst.1
theorem evc_01 {E : Nat → Int} (hE : ∀ k, -1000000 ≤ E k ∧ E k ≤ 1000000) {l : List Int} (hw : wt l 0 0 0 1) : evc E l = 0 ∨ evc E l = 1 := by
  have hh := ev_wt hE l [] [] hw (by intro x hx; cases hx) (by intro x hx; cases hx)
  unfold evc
  match (ev E l ([], [])).2, hh.2.1, hh.2.2.2 with
  | [x], _, h => exact h x (by simp)
/-- the names of a sort, as the reference has them -/
def mnm (s : Int) (E : Nat → Int) (σ : Zm) : Prop := ∀ j, nok s j → zrd σ 279 (nm j) = E j
theorem qM_isSo {x k : Nat} (hx : x < 6) (hk : k < 10) {c : Cl} (E : Nat → Int) (hE : ∀ k, -1000000 ≤ E k ∧ E k ≤ 1000000) (σ : Zm) (hc : TMk σ x k c) (hw : WFc c) (hN : mnm c.1 E σ) : zwp (fM_isSo σ (x : Int) (k : Int)) (fun r σ' => zfo oW σ σ' ∧ r = evc E c.2.2) := by
  obtain ⟨h1, ⟨b, b1, b2, b3, b4⟩, h3⟩ := hc
  obtain ⟨w1, w2, w3, w4, w5⟩ := hw
  unfold fM_isSo fM_clauseAt
  rw [zwp_bi, zwp_some, show zw (zw (900 * (x : Int) + 1 + 5 * (k : Int)) + 1) = ((900 * x + 1 + 5 * k + 1 : Nat) : Int) by rw [zw_addl, zwj (by omega) (by omega)]; omega, show zw (zw (900 * (x : Int) + 1 + 5 * (k : Int)) + 2) = ((900 * x + 1 + 5 * k + 2 : Nat) : Int) by rw [zw_addl, zwj (by omega) (by omega)]; omega, zckj (by omega) (by omega), zwp_let, zckj (by omega) (by omega), zwp_let, Int.toNat_natCast, Int.toNat_natCast, b1, b2, zwp_bv]
  refine zwp_mono (qM_work_c hx E hE σ c.2.2 b b3 (fun y hy q1 q2 => hN _ (w5 y hy q1 q2)) b4 w3) (fun r σ' ⟨f, e⟩ => ?_)
  rw [zck_ok (by decide), zwp_let, zwp_some, e]
  refine ⟨f, ?_⟩
  rcases evc_01 hE w3 with q | q <;> rw [q] <;> decide
theorem qM_priceAt {x k : Nat} (hx : x < 6) (hk : k < 10) {c : Cl} (E : Nat → Int) (hE : ∀ k, -1000000 ≤ E k ∧ E k ≤ 1000000) (σ : Zm) (hc : TMk σ x k c) (hw : WFc c) (h2 : c.1 < 2) (hN : mnm c.1 E σ) : zwp (fM_priceAt σ (x : Int) (k : Int)) (fun r σ' => zfo oW σ σ' ∧ r = prc E c.2.1) := by
  obtain ⟨h1, -, h3⟩ := hc
  obtain ⟨a, a1, a2, a3, a4⟩ := h3 h2
  obtain ⟨w1, w2, w3, w4, w5⟩ := hw
  have hb := evp_bd hE (w2 h2)
  unfold fM_priceAt fM_clauseAt
  rw [zwp_bi, zwp_some, show zw (zw (900 * (x : Int) + 1 + 5 * (k : Int)) + 3) = ((900 * x + 1 + 5 * k + 3 : Nat) : Int) by rw [zw_addl, zwj (by omega) (by omega)]; omega, show zw (zw (900 * (x : Int) + 1 + 5 * (k : Int)) + 4) = ((900 * x + 1 + 5 * k + 4 : Nat) : Int) by rw [zw_addl, zwj (by omega) (by omega)]; omega, zckj (by omega) (by omega), zwp_let, zckj (by omega) (by omega), zwp_let, Int.toNat_natCast, Int.toNat_natCast, a1, a2, zwp_bv]
  refine zwp_mono (qM_work_p hx E hE σ c.2.1 a a3 (fun y hy q1 q2 => hN _ (w4 y hy q1 q2)) a4 (w2 h2)) (fun r σ' ⟨f, e⟩ => ?_)
  obtain ⟨-, q2, -, -, -⟩ := zlc_le (a := evp E c.2.1) (b := 0) (by omega) (by omega)
  obtain ⟨q3, -, -, -, -⟩ := zlc_le (a := evp E c.2.1) (b := 999) (by omega) (by omega)
  rw [zck_ok (by decide), zwp_let, e]
  unfold prc
  by_cases d1 : 0 ≤ evp E c.2.1
  · rw [if_pos (q2.mpr d1), zck_ok (by decide), zwp_let]
    by_cases d2 : evp E c.2.1 ≤ 999
    · rw [if_pos (q3.mpr d2), zck_ok (by decide), zwp_let, zwp_some]
      exact ⟨f, by omega⟩
    · rw [if_neg (fun q => d2 (q3.mp q)), zwp_some]
      exact ⟨f, by omega⟩
  · rw [if_neg (fun q => d1 (q2.mp q)), zwp_some]
    exact ⟨f, by omega⟩

/-! MY OWN: the code read is well typed -/
def okl : List Int → Nat → Prop
  | [], t => t = 1
  | a :: W, t => (a = 3 ∧ 1 ≤ t ∧ okl W t) ∨ ((a = 1 ∨ a = 2) ∧ 2 ≤ t ∧ okl W (t - 1))
def okw (m : Nat) : List Int → Nat → Nat → Prop
  | [], v, t => v = 1 ∧ ((m = 0 ∧ t = 0) ∨ (m = 1 ∧ okl [] (t + 1)))
  | a :: W, v, t => ((a = 0 ∨ a = 14) ∧ okw m W v t) ∨ ((10 ≤ a ∧ a ≤ 13) ∧ 2 ≤ v ∧ okw m W (v - 1) t) ∨ ((4 ≤ a ∧ a ≤ 9) ∧ m = 2 ∧ v = 2 ∧ okl W (t + 1)) ∨ ((1 ≤ a ∧ a ≤ 3) ∧ m = 1 ∧ v = 1 ∧ okl (a :: W) (t + 1))
def lgh : List Int → Prop
  | [] => True
  | a :: _ => 1 ≤ a ∧ a ≤ 3
theorem okl_pos : ∀ (W : List Int) (t : Nat), okl W t → 1 ≤ t
  | [], t, h => by have : t = 1 := h; omega
  | a :: W, t, h => by rcases h with h | h <;> omega
theorem okl_par : ∀ (W : List Int) (t : Nat), okl W t → par W = 0
  | [], t, h => rfl
  | a :: W, t, h => by
    show (if a = 0 then par W + 1 else par W) = 0
    rcases h with ⟨h1, _, h2⟩ | ⟨h1, _, h2⟩
    · rw [if_neg (by omega)]; exact okl_par W _ h2
    · rw [if_neg (by omega)]; exact okl_par W _ h2
theorem okw_pos {m : Nat} : ∀ (W : List Int) (v t : Nat), okw m W v t → 1 ≤ v
  | [], v, t, h => by have := h.1; omega
  | a :: W, v, t, h => by
    rcases h with ⟨_, h⟩ | ⟨_, h, _⟩ | ⟨_, _, h, _⟩ | ⟨_, _, h, _⟩
    · exact okw_pos W v t h
    · omega
    · omega
    · omega
theorem okw_lgh {W : List Int} {v t : Nat} (h : okw 1 W v t) (hl : lgh W) : v = 1 ∧ okl W (t + 1) := by
  match W, h, hl with
  | [], h, _ =>
    refine ⟨h.1, ?_⟩
    rcases h.2 with ⟨z, _⟩ | ⟨_, z⟩
    · omega
    · exact z
  | a :: W, h, hl =>
    have hl' : 1 ≤ a ∧ a ≤ 3 := hl
    rcases h with ⟨h, _⟩ | ⟨h, _⟩ | ⟨h, _⟩ | ⟨_, _, h1, h2⟩
    · omega
    · omega
    · omega
    · exact ⟨h1, h2⟩
theorem lgh_okw {W : List Int} {t : Nat} (h : okl W (t + 1)) : okw 1 W 1 t := by
  match W, h with
  | [], h => exact ⟨rfl, Or.inr ⟨rfl, h⟩⟩
  | a :: W, h =>
    refine Or.inr (Or.inr (Or.inr ⟨?_, rfl, rfl, h⟩))
    rcases h with ⟨h, _⟩ | ⟨h, _⟩ <;> omega
theorem okl_lgh {W : List Int} {t : Nat} (h : okl W t) : lgh W := by
  match W, h with
  | [], h => exact trivial
  | a :: W, h =>
    show 1 ≤ a ∧ a ≤ 3
    rcases h with ⟨h, _⟩ | ⟨h, _⟩ <;> omega
theorem wt_ap : ∀ (l r : List Int) (v t v1 t1 v2 t2 : Nat), wt l v t v1 t1 → wt r v1 t1 v2 t2 → wt (l ++ r) v t v2 t2
  | [], r, v, t, v1, t1, v2, t2, h, hr => by
    have h' : v = v1 ∧ t = t1 := h
    rw [h'.1, h'.2]
    exact hr
  | c :: l, r, v, t, v1, t1, v2, t2, h, hr => by
    rcases h with ⟨h1, h2, h3⟩ | ⟨h1, h2, h3⟩ | ⟨h1, h2, h3, h4⟩ | ⟨h1, h2, h3, h4⟩ | ⟨h1, h2, h3, h4⟩ | ⟨h1, h2, h3, h4⟩
    · exact Or.inl ⟨h1, h2, wt_ap l r _ _ _ _ _ _ h3 hr⟩
    · exact Or.inr (Or.inl ⟨h1, h2, wt_ap l r _ _ _ _ _ _ h3 hr⟩)
    · exact Or.inr (Or.inr (Or.inl ⟨h1, h2, h3, wt_ap l r _ _ _ _ _ _ h4 hr⟩))
    · exact Or.inr (Or.inr (Or.inr (Or.inl ⟨h1, h2, h3, wt_ap l r _ _ _ _ _ _ h4 hr⟩)))
    · exact Or.inr (Or.inr (Or.inr (Or.inr (Or.inl ⟨h1, h2, h3, wt_ap l r _ _ _ _ _ _ h4 hr⟩))))
    · exact Or.inr (Or.inr (Or.inr (Or.inr (Or.inr ⟨h1, h2, h3, wt_ap l r _ _ _ _ _ _ h4 hr⟩))))
theorem wt_val {c : List Int} {v t : Nat} {x : Int} (h : wt c 0 0 v t) (hx : 0 ≤ x ∧ x < 1021) : wt (c ++ [x]) 0 0 (v + 1) t := wt_ap c [x] _ _ _ _ _ _ h (Or.inl ⟨hx.1, hx.2, rfl, rfl⟩)
theorem wt_neg {c : List Int} {v t : Nat} {a : Int} (h : wt c 0 0 v t) (hx : a = 14) (hv : 1 ≤ v) : wt (c ++ [2000 + a]) 0 0 v t := wt_ap c _ _ _ _ _ _ _ h (Or.inr (Or.inl ⟨by omega, hv, rfl, rfl⟩))
theorem wt_ar {c : List Int} {v t : Nat} {a : Int} (h : wt c 0 0 v t) (hx : 10 ≤ a ∧ a ≤ 13) (hv : 2 ≤ v) : wt (c ++ [2000 + a]) 0 0 (v - 1) t := wt_ap c _ _ _ _ _ _ _ h (Or.inr (Or.inr (Or.inl ⟨by omega, by omega, hv, rfl, rfl⟩)))
theorem wt_cm {c : List Int} {t : Nat} {a : Int} (h : wt c 0 0 2 t) (hx : 4 ≤ a ∧ a ≤ 9) : wt (c ++ [2000 + a]) 0 0 0 (t + 1) := wt_ap c _ _ _ _ _ _ _ h (Or.inr (Or.inr (Or.inr (Or.inl ⟨by omega, by omega, rfl, rfl, rfl⟩))))
theorem wt_not {c : List Int} {t : Nat} {a : Int} (h : wt c 0 0 0 t) (hx : a = 3) (ht : 1 ≤ t) : wt (c ++ [2000 + a]) 0 0 0 t := wt_ap c _ _ _ _ _ _ _ h (Or.inr (Or.inr (Or.inr (Or.inr (Or.inl ⟨by omega, rfl, ht, rfl, rfl⟩)))))
theorem wt_bo {c : List Int} {t : Nat} {a : Int} (h : wt c 0 0 0 t) (hx : a = 1 ∨ a = 2) (ht : 2 ≤ t) : wt (c ++ [2000 + a]) 0 0 0 (t - 1) := wt_ap c _ _ _ _ _ _ _ h (Or.inr (Or.inr (Or.inr (Or.inr (Or.inr ⟨by omega, rfl, ht, rfl, rfl⟩)))))
theorem inW_t {a : Int} {W : List Int} (h : inW (a :: W)) : inW W := fun x hx => h x (List.mem_cons_of_mem _ hx)
/-- releasing sums only -/
theorem relw {m : Nat} {l : Int} (hl : 5 ≤ l) : ∀ (W c : List Int) (v t : Nat), inW W → wt c 0 0 v t → okw m W v t → ∃ v', wt (rel l W c).2 0 0 v' t ∧ okw m (rel l W c).1 v' t
  | [], c, v, t, _, h, hk => ⟨v, h, hk⟩
  | a :: W, c, v, t, hW, h, hk => by
    have hz := zLvI (hW a (List.mem_cons_self ..))
    unfold rel
    by_cases c1 : l ≤ zLv a.toNat
    · rw [if_pos c1]
      rcases hk with ⟨h1, h2⟩ | ⟨h1, h2, h3⟩ | ⟨h1, _⟩ | ⟨h1, _⟩
      · exact relw hl W _ v t (inW_t hW) (wt_neg h (by omega) (okw_pos W v t h2)) h2
      · exact relw hl W _ (v - 1) t (inW_t hW) (wt_ar h h1 h2) h3
      · omega
      · omega
    · rw [if_neg c1]
      exact ⟨v, h, hk⟩
theorem relw_lgh {m : Nat} (hm : m ≠ 2) : ∀ (W c : List Int) (v t : Nat), inW W → par W = 0 → okw m W v t → lgh (rel 5 W c).1
  | [], c, v, t, _, _, _ => trivial
  | a :: W, c, v, t, hW, hp, hk => by
    have hz := zLvI (hW a (List.mem_cons_self ..))
    have e : par (a :: W) = if a = 0 then par W + 1 else par W := rfl
    have a0 : a ≠ 0 := fun z => by rw [e, if_pos z] at hp; omega
    rw [e, if_neg a0] at hp
    unfold rel
    rcases hk with ⟨h1, h2⟩ | ⟨h1, h2, h3⟩ | ⟨h1, h2, _⟩ | ⟨h1, h2, h3, h4⟩
    · rw [if_pos (by omega)]
      exact relw_lgh hm W _ v t (inW_t hW) hp h2
    · rw [if_pos (by omega)]
      exact relw_lgh hm W _ _ t (inW_t hW) hp h3
    · exact absurd h2 hm
    · rw [if_neg (by omega)]
      exact h1
/-- releasing down to a parenthesis -/
theorem relw_par {m : Nat} : ∀ (W c : List Int) (v t : Nat), inW W → par W ≠ 0 → wt c 0 0 v t → okw m W v t → ∃ v', wt (rel 1 W c).2 0 0 v' t ∧ okw m (rel 1 W c).1.tail v' t
  | [], c, v, t, _, hp, _, _ => absurd rfl hp
  | a :: W, c, v, t, hW, hp, h, hk => by
    have hz := zLvI (hW a (List.mem_cons_self ..))
    have e : par (a :: W) = if a = 0 then par W + 1 else par W := rfl
    unfold rel
    by_cases a0 : a = 0
    · rw [if_neg (by omega)]
      refine ⟨v, h, ?_⟩
      rcases hk with ⟨h1, h2⟩ | ⟨h1, _⟩ | ⟨h1, _⟩ | ⟨h1, _⟩
      · exact h2
      · omega
      · omega
      · omega
    · rw [e, if_neg a0] at hp
      rw [if_pos (by omega)]
      rcases hk with ⟨h1, h2⟩ | ⟨h1, h2, h3⟩ | ⟨h1, _, _, h2⟩ | ⟨h1, _, _, h2⟩
      · exact relw_par W _ v t (inW_t hW) hp (wt_neg h (by omega) (okw_pos W v t h2)) h2
      · exact relw_par W _ _ t (inW_t hW) hp (wt_ar h h1 h2) h3
      · exact absurd (okl_par W _ h2) hp
      · have := okl_par _ _ h2
        rw [e, if_neg a0] at this
        exact absurd this hp
/-- a price, all released -/
theorem relw_0 : ∀ (W c : List Int) (v t : Nat), inW W → par W = 0 → wt c 0 0 v t → okw 0 W v t → wt (rel 1 W c).2 0 0 1 0
  | [], c, v, t, _, _, h, hk => by
    obtain ⟨k1, k2⟩ := hk
    have ht : t = 0 := by omega
    rw [k1, ht] at h
    exact h
  | a :: W, c, v, t, hW, hp, h, hk => by
    have hz := zLvI (hW a (List.mem_cons_self ..))
    have e : par (a :: W) = if a = 0 then par W + 1 else par W := rfl
    have a0 : a ≠ 0 := fun z => by rw [e, if_pos z] at hp; omega
    rw [e, if_neg a0] at hp
    unfold rel
    rw [if_pos (by omega)]
    rcases hk with ⟨h1, h2⟩ | ⟨h1, h2, h3⟩ | ⟨h1, h2, _⟩ | ⟨h1, h2, _⟩
    · exact relw_0 W _ v t (inW_t hW) hp (wt_neg h (by omega) (okw_pos W v t h2)) h2
    · exact relw_0 W _ _ t (inW_t hW) hp (wt_ar h h1 h2) h3
    · omega
    · omega
theorem rell {l : Int} (hl : 1 ≤ l) : ∀ (W c : List Int) (t : Nat), inW W → wt c 0 0 0 t → okl W t → ∃ t', wt (rel l W c).2 0 0 0 t' ∧ okl (rel l W c).1 t'
  | [], c, t, _, h, hk => ⟨t, h, hk⟩
  | a :: W, c, t, hW, h, hk => by
    unfold rel
    by_cases c1 : l ≤ zLv a.toNat
    · rw [if_pos c1]
      rcases hk with ⟨h1, h2, h3⟩ | ⟨h1, h2, h3⟩
      · exact rell hl W _ t (inW_t hW) (wt_not h h1 h2) h3
      · exact rell hl W _ (t - 1) (inW_t hW) (wt_bo h h1 h2) h3
    · rw [if_neg c1]
      exact ⟨t, h, hk⟩
/-- a condition, released as far as wanted -/
theorem relw_2 {l : Int} (hl : 1 ≤ l ∧ l ≤ 4) : ∀ (W c : List Int) (v t : Nat), inW W → par W = 0 → wt c 0 0 v t → okw 2 W v t → ∃ t', wt (rel l W c).2 0 0 0 t' ∧ okl (rel l W c).1 t'
  | [], c, v, t, _, _, h, hk => by
    obtain ⟨k1, k2⟩ := hk
    omega
  | a :: W, c, v, t, hW, hp, h, hk => by
    have hz := zLvI (hW a (List.mem_cons_self ..))
    have e : par (a :: W) = if a = 0 then par W + 1 else par W := rfl
    have a0 : a ≠ 0 := fun z => by rw [e, if_pos z] at hp; omega
    rw [e, if_neg a0] at hp
    unfold rel
    rcases hk with ⟨h1, h2⟩ | ⟨h1, h2, h3⟩ | ⟨h1, _, h2, h3⟩ | ⟨h1, h2, _⟩
    · rw [if_pos (by omega)]
      exact relw_2 hl W _ v t (inW_t hW) hp (wt_neg h (by omega) (okw_pos W v t h2)) h2
    · rw [if_pos (by omega)]
      exact relw_2 hl W _ _ t (inW_t hW) hp (wt_ar h h1 h2) h3
    · rw [if_pos (by omega)]
      rw [h2] at h
      exact rell hl.1 W _ _ (inW_t hW) (wt_cm h h1) h3
    · omega
theorem wfl_ap {s x : Int} {c : List Int} (h : wfl s c) (hx : 1000 ≤ x → x < 1021 → nok s (x - 1000).toNat) : wfl s (c ++ [x]) := by
  intro y hy a b
  rcases List.mem_append.1 hy with hy | hy
  · exact h y hy a b
  · have := List.mem_singleton.1 hy
    rw [this] at a b ⊢
    exact hx a b
theorem wfl_rel {s l : Int} : ∀ (W c : List Int), inW W → wfl s c → wfl s (rel l W c).2
  | [], c, _, h => h
  | a :: W, c, hW, h => by
    unfold rel
    split
    · exact wfl_rel W _ (inW_t hW) (wfl_ap h (fun _ z => by have := hW a (List.mem_cons_self ..); omega))
    · exact h
theorem nks_nok {so v : Int} (h : nks so v = true) : nok so v.toNat := by
  unfold nks at h
  unfold nok
  by_cases c1 : so = 0
  · rw [if_pos c1] at h ⊢
    simp at h; omega
  · rw [if_neg c1] at h ⊢
    by_cases c2 : so = 1
    · rw [if_pos c2] at h ⊢
      simp at h; omega
    · rw [if_neg c2] at h ⊢
      simp at h; omega
def TO (du so pr cm : Int) (W c1 c : List Int) : Prop := (0 ≤ so ∧ so ≤ 3) ∧ wfl so c1 ∧ wfl so c ∧ ∃ (m v t : Nat), wt c 0 0 v t ∧ okw m W (if du = 3 then v else v + 1) t ∧ ((m = 0 ∧ pr ≠ 0 ∧ cm = 0 ∧ so < 2) ∨ (m = 1 ∧ pr = 0 ∧ cm = 0 ∧ (so < 2 → wt c1 0 0 1 0)) ∨ (m = 2 ∧ pr = 0 ∧ cm ≠ 0 ∧ (so < 2 → wt c1 0 0 1 0))) ∧ (du = 1 → m = 1 ∧ lgh W)
def TI : PS → Prop
  | (_, (du, so, pr, cm), W, c1, c, T, _) => WF T ∧ (1 ≤ du ∧ du ≤ 3 → TO du so pr cm W c1 c)
theorem WF_ap {T : List Cl} {c : Cl} (h : WF T) (hc : WFc c) : WF (T ++ [c]) := by
  intro x hx
  rcases List.mem_append.1 hx with hx | hx
  · exact h x hx
  · rw [List.mem_singleton.1 hx]; exact hc
theorem TI_tk {L p n : Nat} {du so pr cm pl k v s : Int} {W c1 c : List Int} {T : List Cl} (hP : PI L (p, (du, so, pr, cm), W, c1, c, T, (0, pl))) (hd : du ≠ 4) (h : TI (p, (du, so, pr, cm), W, c1, c, T, (0, pl))) (h18 : k = 18 → 0 ≤ v ∧ v ≤ 3) (h20 : k = 20 → 0 ≤ v) : TI (ptk k v s n du so pr cm W c1 c T pl) := by
  obtain ⟨h1, h2, h3, h4, h5, h6, h7, h8, h9, h10⟩ := hP
  obtain ⟨w1, w2⟩ := h
  unfold ptk
  by_cases d0 : du = 0
  · rw [if_pos d0]
    unfold tSort
    by_cases k21 : k = 21
    · rw [if_pos k21]
      exact ⟨w1, fun z => by omega⟩
    · rw [if_neg k21]
      by_cases k18 : k = 18
      · rw [if_pos k18]
        have hv := h18 k18
        by_cases hT : T.length < 10
        · rw [if_pos hT]
          refine ⟨w1, fun _ => ⟨hv, fun x hx => absurd hx (by simp), fun x hx => absurd hx (by simp), ?_⟩⟩
          by_cases cv : v = 0 ∨ v = 1
          · rw [if_pos cv, if_pos cv]
            exact ⟨0, 0, 0, ⟨rfl, rfl⟩, ⟨rfl, Or.inl ⟨rfl, rfl⟩⟩, Or.inl ⟨rfl, by decide, rfl, by omega⟩, fun z => by omega⟩
          · rw [if_neg cv, if_neg cv]
            exact ⟨1, 0, 0, ⟨rfl, rfl⟩, ⟨rfl, Or.inr ⟨rfl, rfl⟩⟩, Or.inr (Or.inl ⟨rfl, rfl, rfl, fun z => by omega⟩), fun _ => ⟨rfl, trivial⟩⟩
        · rw [if_neg hT]; exact ⟨w1, fun z => by omega⟩
      · rw [if_neg k18]; exact ⟨w1, fun z => by omega⟩
  · rw [if_neg d0]
    obtain ⟨t1, t2, t3, m, u, t, t4, t5, t6, t7⟩ := w2 (by omega)
    have same : TI (n, (du, so, pr, cm), W, c1, c, T, ((1 : Int), s)) := ⟨w1, fun _ => ⟨t1, t2, t3, m, u, t, t4, t5, t6, t7⟩⟩
    have sm : ∀ e : Int, TI (n, (du, so, pr, cm), W, c1, c, T, (e, s)) := fun e => ⟨w1, fun _ => ⟨t1, t2, t3, m, u, t, t4, t5, t6, t7⟩⟩
    by_cases d3 : du = 3
    · rw [if_pos d3]
      rw [if_pos d3] at t5
      have hwl := fun l => wfl_rel (s := so) (l := l) W c h4 t3
      have hu := okw_pos W u t t5
      unfold tBeh
      by_cases a1 : 10 ≤ k ∧ k ≤ 13
      · rw [if_pos a1]
        obtain ⟨v', q1, q2⟩ := relw (l := if 11 < k then 6 else 5) (by split <;> omega) W c u t h4 t4 t5
        have hv' := okw_pos _ _ _ q2
        refine ⟨w1, fun _ => ⟨t1, t2, hwl _, m, v', t, q1, ?_, t6, fun z => by omega⟩⟩
        rw [if_neg (show ¬ (2 : Int) = 3 by decide)]
        exact Or.inr (Or.inl ⟨a1, by omega, q2⟩)
      · rw [if_neg a1]
        by_cases a2 : k = 15 ∧ par W ≠ 0
        · rw [if_pos a2]
          obtain ⟨v', q1, q2⟩ := relw_par W c u t h4 a2.2 t4 t5
          refine ⟨w1, fun _ => ⟨t1, t2, hwl _, m, v', t, q1, ?_, t6, fun z => by omega⟩⟩
          rw [if_pos rfl]
          exact q2
        · rw [if_neg a2]
          by_cases a3 : (4 ≤ k ∧ k ≤ 9) ∧ par W = 0 ∧ pr = 0 ∧ cm = 0
          · rw [if_pos a3]
            obtain ⟨b1, b2, b3, b4⟩ := a3
            have hm : m = 1 ∧ (so < 2 → wt c1 0 0 1 0) := by
              rcases t6 with ⟨_, z, _⟩ | ⟨z1, z2, z3, z4⟩ | ⟨_, _, z, _⟩
              · exact absurd b3 z
              · exact ⟨z1, z4⟩
              · exact absurd b4 z
            obtain ⟨hm1, hc1⟩ := hm
            subst hm1
            obtain ⟨v', q1, q2⟩ := relw (l := 5) (by omega) W c u t h4 t4 t5
            have hlg := relw_lgh (m := 1) (by omega) W c u t h4 b2 t5
            obtain ⟨q3, q4⟩ := okw_lgh q2 hlg
            rw [q3] at q1
            refine ⟨w1, fun _ => ⟨t1, t2, hwl _, 2, 1, t, q1, ?_, Or.inr (Or.inr ⟨rfl, b3, by omega, hc1⟩), fun z => by omega⟩⟩
            rw [if_neg (by omega)]
            exact Or.inr (Or.inr (Or.inl ⟨b1, rfl, rfl, q4⟩))
          · rw [if_neg a3]
            by_cases a4 : (k = 1 ∨ k = 2) ∧ par W = 0 ∧ pr = 0 ∧ cm ≠ 0
            · rw [if_pos a4]
              obtain ⟨b1, b2, b3, b4⟩ := a4
              have hm : m = 2 ∧ (so < 2 → wt c1 0 0 1 0) := by
                rcases t6 with ⟨_, z, _⟩ | ⟨z1, z2, z3, z4⟩ | ⟨z1, _, z, z4⟩
                · exact absurd b3 z
                · exact absurd z3 b4
                · exact ⟨z1, z4⟩
              obtain ⟨hm1, hc1⟩ := hm
              subst hm1
              obtain ⟨t', q1, q2⟩ := relw_2 (l := k) (by omega) W c u t h4 b2 t4 t5
              have ht' := okl_pos _ _ q2
              refine ⟨w1, fun _ => ⟨t1, t2, hwl _, 1, 0, t', q1, ?_, Or.inr (Or.inl ⟨rfl, b3, rfl, hc1⟩), fun _ => ⟨rfl, by show 1 ≤ k ∧ k ≤ 3; omega⟩⟩⟩
              rw [if_neg (by omega)]
              refine lgh_okw (Or.inr ⟨b1, by omega, ?_⟩)
              rw [Nat.add_sub_cancel]
              exact q2
            · rw [if_neg a4]
              by_cases a5 : k = 17 ∧ par W = 0 ∧ pr ≠ 0
              · rw [if_pos a5]
                obtain ⟨b1, b2, b3⟩ := a5
                have hm : m = 0 ∧ cm = 0 ∧ so < 2 := by
                  rcases t6 with ⟨z1, z, z2, z3⟩ | ⟨z1, z2, z3, z4⟩ | ⟨z1, z, _⟩
                  · exact ⟨z1, z2, z3⟩
                  · exact absurd z2 b3
                  · exact absurd z b3
                obtain ⟨hm1, hcm, hso⟩ := hm
                subst hm1
                have q1 := relw_0 W c u t h4 b2 t4 t5
                have q2 := rel_all W c h4 b2
                refine ⟨w1, fun _ => ⟨t1, hwl _, fun x hx => absurd hx (by simp), 1, 0, 0, ⟨rfl, rfl⟩, ?_, Or.inr (Or.inl ⟨rfl, rfl, hcm, fun _ => q1⟩), fun _ => ⟨rfl, by rw [q2]; trivial⟩⟩⟩
                rw [q2, if_neg (by omega)]
                exact ⟨rfl, Or.inr ⟨rfl, rfl⟩⟩
              · rw [if_neg a5]
                by_cases a6 : k = 16 ∧ par W = 0 ∧ pr = 0 ∧ cm ≠ 0
                · rw [if_pos a6]
                  obtain ⟨b1, b2, b3, b4⟩ := a6
                  have hm : m = 2 ∧ (so < 2 → wt c1 0 0 1 0) := by
                    rcases t6 with ⟨_, z, _⟩ | ⟨z1, z2, z3, z4⟩ | ⟨z1, _, z, z4⟩
                    · exact absurd b3 z
                    · exact absurd z3 b4
                    · exact ⟨z1, z4⟩
                  obtain ⟨hm1, hc1⟩ := hm
                  subst hm1
                  obtain ⟨t', q1, q2⟩ := relw_2 (l := 1) (by omega) W c u t h4 b2 t4 t5
                  rw [rel_all W c h4 b2] at q2
                  have q3 : t' = 1 := q2
                  rw [q3] at q1
                  exact ⟨WF_ap w1 ⟨t1, hc1, q1, t2, hwl _⟩, fun z => by omega⟩
                · rw [if_neg a6]; exact sm 1
    · rw [if_neg d3]
      rw [if_neg d3] at t5
      have nst : ∀ x d, ((x = 0 ∨ x = 14) ∧ d = 2) → TI (nest s n x d du so pr cm W c1 c T pl) := by
        intro x d hx
        unfold nest
        by_cases a : aro W < 8
        · rw [if_pos a]
          refine ⟨w1, fun _ => ⟨t1, t2, t3, m, u, t, t4, ?_, t6, fun z => by omega⟩⟩
          rw [if_neg (by omega)]
          exact Or.inl ⟨hx.1, t5⟩
        · rw [if_neg a]; exact sm 3
      have em : ∀ x, 0 ≤ x ∧ x < 1021 → (1000 ≤ x → x < 1021 → nok so (x - 1000).toNat) → TI (n, (3, so, pr, cm), W, c1, c ++ [x], T, (0, pl)) := by
        intro x hx hn
        refine ⟨w1, fun _ => ⟨t1, t2, wfl_ap t3 hn, m, u + 1, t, wt_val t4 hx, ?_, t6, fun z => by omega⟩⟩
        rw [if_pos rfl]
        exact t5
      unfold tOne
      by_cases k0 : k = 0
      · rw [if_pos k0]; exact nst 0 2 (by omega)
      · rw [if_neg k0]
        by_cases k11 : k = 11
        · rw [if_pos k11]; exact nst 14 2 (by omega)
        · rw [if_neg k11]
          by_cases k3 : k = 3 ∧ du = 1
          · rw [if_pos k3]
            unfold nest
            by_cases a : aro W < 8
            · rw [if_pos a]
              obtain ⟨m1, hlg⟩ := t7 k3.2
              subst m1
              obtain ⟨q1, q2⟩ := okw_lgh t5 hlg
              have q3 := okl_pos _ _ q2
              refine ⟨w1, fun _ => ⟨t1, t2, t3, 1, u, t, t4, ?_, t6, fun _ => ⟨rfl, by show (1 : Int) ≤ 3 ∧ (3 : Int) ≤ 3; omega⟩⟩⟩
              rw [if_neg (by omega), q1]
              exact lgh_okw (Or.inl ⟨rfl, by omega, q2⟩)
            · rw [if_neg a]; exact sm 3
          · rw [if_neg k3]
            by_cases k19 : k = 19
            · rw [if_pos k19]
              by_cases a : nks so v = true
              · rw [if_pos a]
                have hb := nks_bd a
                refine em _ (by omega) (fun _ _ => ?_)
                rw [show 1000 + v - 1000 = v by omega]
                exact nks_nok a
              · rw [if_neg a]; exact sm 4
            · rw [if_neg k19]
              by_cases k20 : k = 20
              · rw [if_pos k20]
                have := h20 k20
                by_cases a : v ≤ 999
                · rw [if_pos a]; exact em _ (by omega) (fun z _ => by omega)
                · rw [if_neg a]; exact sm 2
              · rw [if_neg k20]; exact sm 1
theorem TI_step {f : Nat → Int} {L : Nat} (S : PS) (hP : PI L S) (h : TI S) : TI (pstep f L S) := by
  obtain ⟨p, ⟨du, so, pr, cm⟩, W, c1, c, T, fa, pl⟩ := S
  by_cases hf : fa ≠ 0 ∨ du = 4
  · rw [pstep_no hf]; exact h
  · have h1 : fa = 0 := Decidable.byContradiction (fun z => hf (Or.inl z))
    have h2 : du ≠ 4 := fun z => hf (Or.inr z)
    subst h1
    rw [pstep_go h2]
    have hts := ts_bd (f := f) hP.1
    by_cases c1' : ts f L p < L
    · have hk := tk_s (f := f) c1'
      exact TI_tk hP h2 h hk.2.1 (fun q => (hk.2.2.1 q).1)
    · have hk := tk_e (f := f) (L := L) (s := ts f L p) (by omega)
      exact TI_tk hP h2 h (fun q => by omega) (fun q => by omega)
theorem PTI_it {f : Nat → Int} {L : Nat} : ∀ (n : Nat) (S : PS), PI L S → TI S → PI L (pit f L n S) ∧ TI (pit f L n S)
  | 0, S, h1, h2 => ⟨h1, h2⟩
  | n + 1, S, h1, h2 => by
    have h3 : PI L (pstep f L S) := by
      by_cases c : fin S
      · have e : pstep f L S = S := by
          have := pit_fin (f := f) (L := L) c 1
          exact this
        rw [e]; exact h1
      · exact (PI_step S h1 c).1
    exact PTI_it n (pstep f L S) h3 (TI_step S h1 h2)
theorem Rc_inv {f : Nat → Int} {L : Nat} {S S' : PS} (h : Rc f L S S') (h1 : PI L S) (h2 : TI S) : PI L S' ∧ TI S' := by
  obtain ⟨n, rfl⟩ := h
  exact PTI_it n S h1 h2
theorem TI_0 : TI S0 := ⟨fun x hx => absurd hx (by simp), fun z => by omega⟩

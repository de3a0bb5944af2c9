/-! MY OWN: two ways to count the orders of pages -/
def okp (page place : Int) (k l : Nat) : Bool := decide (page < 0) || (decide ((k : Int) = place) == decide ((l : Int) = page))
def mcl (fl fn : Nat → Nat) (n : Nat) (page place : Int) : Nat → Nat → Nat → Nat
  | 0, _, _ => 0
  | k + 1, s, l => if s.testBit l = true ∧ okp page place k l = true then (if k = 0 then 1 else if nob (fl l) (clr s l) 99 8 = true then sumn (fun b => if (clr s l).testBit b = true ∧ nob (fn l) (clr s l) b 8 = true then mcl fl fn n page place k (clr s l) b else 0) n else 0) else 0
theorem pcl {s l : Nat} (hs : s < 256) (hl : l < 8) (h : s.testBit l = true) : pc (clr s l) + 1 = pc s := by
  have h2 : ∀ s : Nat, s < 256 → ∀ l : Nat, l < 8 → s.testBit l = true → pc (clr s l) + 1 = pc s := by decide +kernel
  exact h2 s hs l hl h
theorem pzb {s j : Nat} (hs : s < 256) (hj : j < 8) (h : pc s = 0) : s.testBit j = false := by
  have h2 : ∀ s : Nat, s < 256 → ∀ j : Nat, j < 8 → pc s = 0 → s.testBit j = false := by decide +kernel
  exact h2 s hs j hj h
theorem sumn_z {f : Nat → Nat} : ∀ n, (∀ b, b < n → f b = 0) → sumn f n = 0
  | 0, _ => rfl
  | n + 1, h => by
    show sumn f n + f n = 0
    rw [sumn_z n (fun b hb => h b (by omega)), h n (by omega)]
/-- whose pages ahead are all there -/
def dcl (fa : Nat → Nat) (s : Nat) : Prop := ∀ l, l < 8 → s.testBit l = true → ∀ a, a < 8 → (fa l).testBit a = true → s.testBit a = true
theorem wcl_nd {fa fb : Nat → Nat} {n : Nat} (hn : n ≤ 8) {page place : Int} : ∀ (k s l : Nat), pc s = k → s < 256 → l < 8 → (∃ x a, (x < 8 ∧ s.testBit x = true) ∧ (a < 8 ∧ (fa x).testBit a = true) ∧ s.testBit a = false) → wcl fa fb n page place k s l = 0
  | 0, s, l, _, _, _, _ => rfl
  | k + 1, s, l, hk, hs, hl, ⟨x, a, ⟨hx, hxs⟩, ⟨ha, hax⟩, has⟩ => by
    unfold wcl
    by_cases c1 : s.testBit l = true ∧ ((k : Int) ≠ place ∨ (l : Int) = page)
    · rw [if_pos c1]
      by_cases c2 : sbs (fa l) (clr s l) 8 = true
      · rw [if_pos c2]
        have h2 := sbs_iff 8 |>.1 c2
        have hxl : x ≠ l := by
          intro q
          have := h2 a ha (by rw [← q]; exact hax)
          rw [clr_bit hs hl ha, has] at this
          exact absurd this (by simp)
        have hpc := pcl hs hl c1.1
        have hx2 : (clr s l).testBit x = true := by rw [clr_bit hs hl hx, hxs]; simp [hxl]
        have ha2 : (clr s l).testBit a = false := by rw [clr_bit hs hl ha, has]; rfl
        have hlt : clr s l < 256 := by have := clr_le s l; omega
        have hk0 : ¬ k = 0 := by
          intro q
          have := pzb hlt hx (by omega)
          rw [hx2] at this
          exact absurd this (by decide)
        rw [if_neg hk0]
        refine sumn_z n (fun b hb => ?_)
        split
        · exact wcl_nd hn k (clr s l) b (by omega) hlt (by omega) ⟨x, a, ⟨hx, hx2⟩, ⟨ha, hax⟩, ha2⟩
        · rfl
      · rw [if_neg c2]
    · rw [if_neg c1]
theorem wcl_np {fa fb : Nat → Nat} {n : Nat} (hn : n ≤ 8) {page place : Int} (hp : 0 ≤ place) (pg : Nat) (hpg : page = (pg : Int)) (hpg8 : pg < 8) : ∀ (k s l : Nat), pc s = k → s < 256 → l < 8 → place < k → s.testBit pg = false → wcl fa fb n page place k s l = 0
  | 0, s, l, _, _, _, _, _ => rfl
  | k + 1, s, l, hk, hs, hl, hpk, hns => by
    unfold wcl
    by_cases c1 : s.testBit l = true ∧ ((k : Int) ≠ place ∨ (l : Int) = page)
    · rw [if_pos c1]
      have hlp : (l : Int) ≠ page := by
        intro q
        have : l = pg := by omega
        rw [this, hns] at c1
        exact absurd c1.1 (by decide)
      have hkp : (k : Int) ≠ place := by
        rcases c1.2 with q | q
        · exact q
        · exact absurd q hlp
      by_cases c2 : sbs (fa l) (clr s l) 8 = true
      · rw [if_pos c2, if_neg (by omega)]
        have hpc := pcl hs hl c1.1
        have hlt : clr s l < 256 := by have := clr_le s l; omega
        refine sumn_z n (fun b hb => ?_)
        split
        · exact wcl_np hn hp pg hpg hpg8 k (clr s l) b (by omega) hlt (by omega) (by omega) (by rw [clr_bit hs hl hpg8, hns]; rfl)
        · rfl
      · rw [if_neg c2]
    · rw [if_neg c1]
/-- the model's place and page, and the class's -/
def ppk (page place place' : Int) : Prop := (page = -1 ∧ place = -1) ∨ (0 ≤ page ∧ page < 8 ∧ 0 ≤ place ∧ place' = place)
theorem wcl_mcl {fa fb fl : Nat → Nat} {n : Nat} (hn : n ≤ 8) (hT : ∀ x y, x < 8 → y < 8 → ((fl x).testBit y = true ↔ (fa y).testBit x = true)) (hR : ∀ x, x < 8 → (fa x).testBit x = false) {page place place' : Int} (hpp : ppk page place place') : ∀ (k s l : Nat), pc s = k → s < 256 → l < 8 → dcl fa s → (page < 0 ∨ place < k ∨ s.testBit page.toNat = false) → wcl fa fb n page place k s l = mcl fl fb n page place' k s l
  | 0, s, l, _, _, _, _, _ => rfl
  | k + 1, s, l, hk, hs, hl, hd, hc => by
    by_cases c1 : s.testBit l = true
    · have hpc := pcl hs hl c1
      have hlt : clr s l < 256 := by have := clr_le s l; omega
      have hsb : sbs (fa l) (clr s l) 8 = true := by
        refine (sbs_iff 8).2 (fun j hj hjl => ?_)
        have := hd l hl c1 j hj hjl
        rw [clr_bit hs hl hj, this]
        have hne : j ≠ l := by
          intro q
          rw [q, hR l hl] at hjl
          exact absurd hjl (by decide)
        simp [hne]
      have hll : (clr s l).testBit l = false := by rw [clr_bit hs hl hl]; simp
      -- the sum over the last but one
      have hsum : (page < 0 ∨ place < k ∨ (clr s l).testBit page.toNat = false) → ¬ k = 0 → sumn (fun b => if (clr s l).testBit b = true ∧ nob (fb l) (clr s l) b 8 = true then wcl fa fb n page place k (clr s l) b else 0) n = if nob (fl l) (clr s l) 99 8 = true then sumn (fun b => if (clr s l).testBit b = true ∧ nob (fb l) (clr s l) b 8 = true then mcl fl fb n page place' k (clr s l) b else 0) n else 0 := by
        intro hc2 hk0
        by_cases c3 : nob (fl l) (clr s l) 99 8 = true
        · rw [if_pos c3]
          have h3 := (nob_iff 8).1 c3
          have hd2 : dcl fa (clr s l) := by
            intro x hx hxs a ha hax
            have hxs2 : s.testBit x = true := by
              rw [clr_bit hs hl hx] at hxs
              cases q : s.testBit x
              · rw [q] at hxs; exact absurd hxs (by simp)
              · rfl
            have := hd x hx hxs2 a ha hax
            rw [clr_bit hs hl ha, this]
            have hne : a ≠ l := by
              intro q
              rw [q] at hax
              exact h3 x hx (by omega) ⟨(hT l x hl hx).2 hax, hxs⟩
            simp [hne]
          refine sumn_cg n (fun b hb => ?_)
          show (if _ then _ else _) = (if _ then _ else _)
          by_cases c4 : (clr s l).testBit b = true ∧ nob (fb l) (clr s l) b 8 = true
          · rw [if_pos c4, if_pos c4]
            exact wcl_mcl hn hT hR hpp k (clr s l) b (by omega) hlt (by omega) hd2 hc2
          · rw [if_neg c4, if_neg c4]
        · rw [if_neg c3]
          have h3 : ∃ x, x < 8 ∧ (fl l).testBit x = true ∧ (clr s l).testBit x = true := by
            by_cases q : ∃ x, x < 8 ∧ (fl l).testBit x = true ∧ (clr s l).testBit x = true
            · exact q
            · exact absurd ((nob_iff 8).2 (fun j hj _ z => q ⟨j, hj, z.1, z.2⟩)) c3
          obtain ⟨x, hx, hx1, hx2⟩ := h3
          refine sumn_z n (fun b hb => ?_)
          split
          · exact wcl_nd hn k (clr s l) b (by omega) hlt (by omega) ⟨x, l, ⟨hx, hx2⟩, ⟨hl, (hT l x hl hx).1 hx1⟩, hll⟩
          · rfl
      unfold wcl mcl
      have hcp : (s.testBit page.toNat = false) → (clr s l).testBit page.toNat = false ∨ 8 ≤ page.toNat := by
        intro q
        by_cases q2 : page.toNat < 8
        · left
          rw [clr_bit hs hl q2, q]
          rfl
        · right; omega
      rcases hpp with ⟨p1, p2⟩ | ⟨p1, p2, p3, p4⟩
      · have hok : okp page place' k l = true := by unfold okp; simp [show page < 0 by omega]
        rw [if_pos ⟨c1, Or.inl (by omega)⟩, if_pos hsb, if_pos (show s.testBit l = true ∧ okp page place' k l = true from ⟨c1, hok⟩)]
        by_cases hk0 : k = 0
        · rw [if_pos hk0, if_pos hk0]
        · rw [if_neg hk0, if_neg hk0]
          exact hsum (Or.inl (by omega)) hk0
      · subst p4
        by_cases q : (k : Int) = place'
        · by_cases q2 : (l : Int) = page
          · have hok : okp page place' k l = true := by unfold okp; simp [q, q2]
            rw [if_pos ⟨c1, Or.inr q2⟩, if_pos hsb, if_pos (show s.testBit l = true ∧ okp page place' k l = true from ⟨c1, hok⟩)]
            by_cases hk0 : k = 0
            · rw [if_pos hk0, if_pos hk0]
            · rw [if_neg hk0, if_neg hk0]
              refine hsum (Or.inr (Or.inr ?_)) hk0
              rw [← q2, Int.toNat_natCast]
              exact hll
          · have hok : ¬ (s.testBit l = true ∧ okp page place' k l = true) := by
              intro z
              have := z.2
              unfold okp at this
              simp [q, q2] at this
              omega
            rw [if_neg (fun z => by rcases z.2 with z | z; exact z q; exact q2 z), if_neg hok]
        · by_cases q2 : (l : Int) = page
          · have hok : ¬ (s.testBit l = true ∧ okp page place' k l = true) := by
              intro z
              have := z.2
              unfold okp at this
              simp [q, q2] at this
              omega
            rw [if_neg hok, if_pos ⟨c1, Or.inl q⟩, if_pos hsb]
            have hsl : s.testBit page.toNat = true := by rw [← q2, Int.toNat_natCast]; exact c1
            have hlt2 : place' < k := by
              rcases hc with z | z | z
              · omega
              · omega
              · rw [hsl] at z; exact absurd z (by decide)
            rw [if_neg (by omega)]
            refine sumn_z n (fun b hb => ?_)
            split
            · refine wcl_np hn p3 l q2.symm hl k (clr s l) b (by omega) hlt (by omega) hlt2 hll
            · rfl
          · have hok : okp page place' k l = true := by unfold okp; simp [q, q2]
            rw [if_pos ⟨c1, Or.inl q⟩, if_pos hsb, if_pos (show s.testBit l = true ∧ okp page place' k l = true from ⟨c1, hok⟩)]
            by_cases hk0 : k = 0
            · rw [if_pos hk0, if_pos hk0]
            · rw [if_neg hk0, if_neg hk0]
              refine hsum ?_ hk0
              rcases hc with z | z | z
              · exact Or.inl z
              · exact Or.inr (Or.inl (by omega))
              · rcases hcp z with z | z
                · exact Or.inr (Or.inr z)
                · omega
    · unfold wcl mcl
      rw [if_neg (fun z => c1 z.1), if_neg (fun z => c1 z.1)]

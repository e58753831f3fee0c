/-! promises 14, 15: what a text on the tape is: the parser, pure; the system's reader -/
abbrev Res := Bool × Nat × List Nat
def hrF (t : Nat → Int32) (n pl : Nat) : Int32 := if pl < n then t pl else (-1 : Int32)
def dgF (b : Int32) : Bool := decide (¬ b < nI 48) && decide (¬ nI 57 < b)
def nmF (u : Nat) (b : Int32) : Nat := if k_tv 2 (u * 3) = b then 0 else if k_tv 2 (u * 3 + 1) = b then 1 else if k_tv 2 (u * 3 + 2) = b then 2 else 3
def sgL : Nat → List Nat
  | 0 => [124]
  | 1 => [38]
  | 2 => [60, 61, 62]
  | 3 => [43, 45]
  | _ => [42, 47, 37]
def sgF (lev : Nat) (b : Int32) : Prop := ∃ c, c ∈ sgL lev ∧ b = nI c
def nbF (t : Nat → Int32) (n : Nat) : Nat → Nat → Nat → Nat × Nat
  | 0, v, pl => (v, pl)
  | m + 1, v, pl => if dgF (hrF t n pl) = true then nbF t n m (v * 10 + (cl (hrF t n pl) - 48)) (pl + 1) else (v, pl)
noncomputable def lpF (t : Nat → Int32) (n : Nat) (p : Nat → Res) (lev : Nat) : Nat → Nat → List Nat → Res
  | 0, pl, c => (true, pl, c)
  | m + 1, pl, c => @ite Res (sgF lev (hrF t n pl)) (Classical.propDecidable _) (if (p (pl + 1)).1 = true then lpF t n p lev m (p (pl + 1)).2.1 (c ++ ((p (pl + 1)).2.2 ++ [20000 + cl (hrF t n pl)])) else p (pl + 1)) (true, pl, c)
noncomputable def lvlF (t : Nat → Int32) (n : Nat) (q : Nat → Res) : Nat → Nat → Res
  | 0, pl => q pl
  | k + 1, pl => if (lvlF t n q k pl).1 = true then lpF t n (lvlF t n q k) (4 - k) (if k = 2 then 1 else 60) (lvlF t n q k pl).2.1 (lvlF t n q k pl).2.2 else lvlF t n q k pl
noncomputable def q0F (t : Nat → Int32) (n u : Nat) (more : Nat → Res) (pl : Nat) : Res :=
  if dgF (hrF t n pl) = true then (true, (nbF t n 4 0 pl).2, [(nbF t n 4 0 pl).1])
  else if nmF u (hrF t n pl) < 3 then (true, pl + 1, [10000 + nmF u (hrF t n pl)])
  else more pl
noncomputable def qqF (t : Nat → Int32) (n u : Nat) : Nat → Nat → Res
  | 0 => q0F t n u (fun pl => (false, pl, []))
  | r + 1 => q0F t n u (fun pl =>
      if hrF t n pl = nI 33 then ((qqF t n u r (pl + 1)).1, (qqF t n u r (pl + 1)).2.1, (qqF t n u r (pl + 1)).2.2 ++ [20033])
      else if hrF t n pl = nI 40 then (if (lvlF t n (qqF t n u r) 5 (pl + 1)).1 = true then (if hrF t n (lvlF t n (qqF t n u r) 5 (pl + 1)).2.1 = nI 41 then (true, (lvlF t n (qqF t n u r) 5 (pl + 1)).2.1 + 1, (lvlF t n (qqF t n u r) 5 (pl + 1)).2.2) else (false, (lvlF t n (qqF t n u r) 5 (pl + 1)).2.1, [])) else lvlF t n (qqF t n u r) 5 (pl + 1))
      else (false, pl, []))
/-- it moves on, and leaves no more steps than bytes -/
def PM (n : Nat) (pa : Nat → Res) : Prop := ∀ pl, pl ≤ n → ((pa pl).1 = true → pl < (pa pl).2.1 ∧ (pa pl).2.1 ≤ n ∧ (pa pl).2.2.length + pl ≤ (pa pl).2.1) ∧ (¬ (pa pl).1 = true → (pa pl).2.1 ≤ n)
theorem hr_lt {t : Nat → Int32} {n pl : Nat} (h : hrF t n pl ≠ (-1 : Int32)) : pl < n := by
  unfold hrF at h
  by_cases c : pl < n
  · exact c
  · rw [if_neg c] at h; exact absurd rfl h
theorem dg_lt {t : Nat → Int32} {n pl : Nat} (h : dgF (hrF t n pl) = true) : pl < n := hr_lt (fun e => by rw [e] at h; revert h; decide)
theorem dg_nI {b : Int32} (h : dgF b = true) : ∃ j : Nat, 48 ≤ j ∧ j ≤ 57 ∧ b = nI j := by
  unfold dgF at h
  rw [Bool.and_eq_true, decide_eq_true_iff, decide_eq_true_iff, k_lti, k_lti] at h
  apply (k_wi (by decide) (by decide)).mp
  omega
theorem sg_lt {t : Nat → Int32} {n pl lev : Nat} (h : sgF lev (hrF t n pl)) : pl < n := hr_lt (fun e => by
  obtain ⟨c, hc, e2⟩ := h
  rw [e] at e2
  have : c < 200 := by
    match lev, hc with
    | 0, hc => simp [sgL] at hc; omega
    | 1, hc => simp [sgL] at hc; omega
    | 2, hc => simp [sgL] at hc; omega
    | 3, hc => simp [sgL] at hc; omega
    | _ + 4, hc => simp [sgL] at hc; omega
  have t1 : (-1 : Int32).toInt = (nI c).toInt := by rw [e2]
  rw [nI_toInt (by omega)] at t1
  have t2 : (-1 : Int32).toInt = -1 := by decide
  omega)
theorem nm_lt {t : Nat → Int32} {n pl u : Nat} (hu : u < 2) (h : nmF u (hrF t n pl) < 3) : pl < n := hr_lt (fun e => by
  rw [e] at h
  have : ∀ u, u < 2 → ¬ nmF u (-1 : Int32) < 3 := by decide
  exact this u hu h)
theorem nb_le {t : Nat → Int32} {n : Nat} : ∀ m v pl, pl ≤ n → pl ≤ (nbF t n m v pl).2 ∧ (nbF t n m v pl).2 ≤ n
  | 0, v, pl, h => ⟨Nat.le_refl _, h⟩
  | m + 1, v, pl, h => by
    simp only [nbF]
    by_cases c : dgF (hrF t n pl) = true
    · rw [if_pos c]
      have := nb_le (t := t) (n := n) m (v * 10 + (cl (hrF t n pl) - 48)) (pl + 1) (dg_lt c)
      omega
    · rw [if_neg c]; exact ⟨Nat.le_refl _, h⟩
theorem nb_v {t : Nat → Int32} {n : Nat} : ∀ m v pl b, v < b → (nbF t n m v pl).1 < b * 10 ^ m
  | 0, v, pl, b, h => by simpa [nbF] using h
  | m + 1, v, pl, b, h => by
    simp only [nbF]
    by_cases c : dgF (hrF t n pl) = true
    · rw [if_pos c]
      obtain ⟨j, j1, j2, e⟩ := dg_nI c
      have ecl : cl (hrF t n pl) = j := by rw [e]; exact nI_clamp (by omega)
      rw [ecl]
      have := nb_v (t := t) (n := n) m (v * 10 + (j - 48)) (pl + 1) (b * 10) (by omega)
      rw [Nat.pow_succ]
      rw [Nat.mul_assoc, Nat.mul_comm 10] at this
      exact this
    · rw [if_neg c]
      have : b * 1 ≤ b * 10 ^ (m + 1) := Nat.mul_le_mul_left _ (Nat.pow_pos (by decide))
      omega
theorem lp_le {t : Nat → Int32} {n lev : Nat} {p : Nat → Res} (hp : PM n p) : ∀ m pl c, pl ≤ n → ((lpF t n p lev m pl c).1 = true → pl ≤ (lpF t n p lev m pl c).2.1 ∧ (lpF t n p lev m pl c).2.1 ≤ n ∧ (lpF t n p lev m pl c).2.2.length + pl ≤ (lpF t n p lev m pl c).2.1 + c.length) ∧ (¬ (lpF t n p lev m pl c).1 = true → (lpF t n p lev m pl c).2.1 ≤ n)
  | 0, pl, c, h => ⟨fun _ => ⟨Nat.le_refl _, h, by simp only [lpF]; omega⟩, fun z => absurd rfl z⟩
  | m + 1, pl, c, h => by
    simp only [lpF]
    by_cases s : sgF lev (hrF t n pl)
    · rw [if_pos s]
      have hl := sg_lt s
      obtain ⟨p1, p2⟩ := hp (pl + 1) hl
      by_cases g : (p (pl + 1)).1 = true
      · rw [if_pos g]
        obtain ⟨g1, g2, g3⟩ := p1 g
        have := lp_le (t := t) (lev := lev) hp m (p (pl + 1)).2.1 (c ++ ((p (pl + 1)).2.2 ++ [20000 + cl (hrF t n pl)])) g2
        simp only [List.length_append, List.length_cons, List.length_nil] at this
        refine ⟨fun z => ?_, this.2⟩
        have := this.1 z
        omega
      · rw [if_neg g]
        exact ⟨fun z => absurd z g, fun _ => p2 g⟩
    · rw [if_neg s]
      exact ⟨fun _ => ⟨Nat.le_refl _, h, by show c.length + pl ≤ pl + c.length; omega⟩, fun z => absurd rfl z⟩
theorem lvl_le {t : Nat → Int32} {n : Nat} {q : Nat → Res} (hq : PM n q) : ∀ k, PM n (lvlF t n q k)
  | 0 => hq
  | k + 1 => by
    intro pl h
    have ih := lvl_le (t := t) hq k
    obtain ⟨p1, p2⟩ := ih pl h
    simp only [lvlF]
    by_cases g : (lvlF t n q k pl).1 = true
    · rw [if_pos g]
      obtain ⟨g1, g2, g3⟩ := p1 g
      have := lp_le (t := t) (lev := 4 - k) ih (if k = 2 then 1 else 60) (lvlF t n q k pl).2.1 (lvlF t n q k pl).2.2 g2
      refine ⟨fun z => ?_, this.2⟩
      have := this.1 z
      omega
    · rw [if_neg g]
      exact ⟨fun z => absurd z g, fun _ => p2 g⟩
theorem q0_le {t : Nat → Int32} {n u : Nat} {more : Nat → Res} (hu : u < 2) (hm : PM n more) : PM n (q0F t n u more) := by
  intro pl h
  unfold q0F
  by_cases c : dgF (hrF t n pl) = true
  · rw [if_pos c]
    have hl := dg_lt c
    have := nb_le (t := t) (n := n) 3 (0 * 10 + (cl (hrF t n pl) - 48)) (pl + 1) hl
    have e : nbF t n 4 0 pl = nbF t n 3 (0 * 10 + (cl (hrF t n pl) - 48)) (pl + 1) := by
      rw [show (4 : Nat) = 3 + 1 from rfl]
      simp only [nbF]
      rw [if_pos c]
    rw [e]
    exact ⟨fun _ => ⟨this.1, this.2, by show 1 + pl ≤ (nbF t n 3 (0 * 10 + (cl (hrF t n pl) - 48)) (pl + 1)).2; omega⟩, fun z => absurd rfl z⟩
  · rw [if_neg c]
    by_cases c2 : nmF u (hrF t n pl) < 3
    · rw [if_pos c2]
      have hl := nm_lt hu c2
      exact ⟨fun _ => ⟨by show pl < pl + 1; omega, hl, by show 1 + pl ≤ pl + 1; omega⟩, fun z => absurd rfl z⟩
    · rw [if_neg c2]
      exact hm pl h
theorem qq_le {t : Nat → Int32} {n u : Nat} (hu : u < 2) : ∀ r, PM n (qqF t n u r)
  | 0 => q0_le hu (fun pl h => ⟨fun z => absurd z Bool.false_ne_true, fun _ => h⟩)
  | r + 1 => by
    have ih := qq_le (t := t) (n := n) hu r
    refine q0_le hu (fun pl h => ?_)
    by_cases c : hrF t n pl = nI 33
    · rw [if_pos c]
      have hl : pl < n := hr_lt (by rw [c]; decide)
      obtain ⟨p1, p2⟩ := ih (pl + 1) hl
      refine ⟨fun z => ?_, p2⟩
      have := p1 z
      simp only [List.length_append, List.length_cons, List.length_nil]
      omega
    · rw [if_neg c]
      by_cases c2 : hrF t n pl = nI 40
      · rw [if_pos c2]
        have hl : pl < n := hr_lt (by rw [c2]; decide)
        obtain ⟨p1, p2⟩ := lvl_le (t := t) ih 5 (pl + 1) hl
        generalize lvlF t n (qqF t n u r) 5 (pl + 1) = s at p1 p2
        by_cases g : s.1 = true
        · rw [if_pos g]
          have := p1 g
          by_cases c3 : hrF t n s.2.1 = nI 41
          · rw [if_pos c3]
            have hl2 : s.2.1 < n := hr_lt (by rw [c3]; decide)
            exact ⟨fun _ => ⟨by show pl < s.2.1 + 1; omega, hl2, by show s.2.2.length + pl ≤ s.2.1 + 1; omega⟩, fun z => absurd rfl z⟩
          · rw [if_neg c3]
            exact ⟨fun z => absurd z Bool.false_ne_true, fun _ => this.2.1⟩
        · rw [if_neg g]
          exact ⟨fun z => absurd z g, fun _ => p2 g⟩
      · rw [if_neg c2]
        exact ⟨fun z => absurd z Bool.false_ne_true, fun _ => h⟩

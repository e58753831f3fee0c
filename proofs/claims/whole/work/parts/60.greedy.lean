/-! promise 25: how many are bought: the cheapest first, and price by price -/
def clrB (v : Int32) (q : Nat) : Int32 := v &&& (((nI 1) <<< ((nI q) &&& 31)) ^^^ (-1 : Int32))
theorem clr_bt {v : Int32} {q j : Nat} (hq : q < 32) (hj : j < 32) : bt (clrB v q) j = (bt v j && !decide (j = q)) := by
  unfold clrB
  rw [bt_and]
  congr 1
  unfold bt
  rw [Int32.toBitVec_xor, BitVec.getLsbD_xor]
  have e1 : ((nI 1) <<< ((nI q) &&& 31)).toBitVec.getLsbD j = decide (j = q) := by
    have := bt_or (v := nI 0) (k := q) (j := j) hq hj
    rw [bt_0, Bool.false_or] at this
    rw [← this]
    unfold bt
    rw [Int32.toBitVec_or, BitVec.getLsbD_or]
    have z : (nI 0).toBitVec.getLsbD j = false := bt_0 (k := j)
    rw [z, Bool.false_or]
  have e2 : (-1 : Int32).toBitVec.getLsbD j = true := by
    have : ∀ j, j < 32 → (-1 : Int32).toBitVec.getLsbD j = true := by decide
    exact this j hj
  rw [e1, e2, Bool.xor_true]
def cF (pk : Nat → Nat) (v : Int32) (pr : Nat) : Nat → Nat
  | 0 => 0
  | k + 1 => cF pk v pr k + (if bt v k = true ∧ pk k = pr then 1 else 0)
def toF (v : Int32) : Nat → Nat
  | 0 => 0
  | k + 1 => toF v k + (if bt v k = true then 1 else 0)
theorem cF_clr {pk : Nat → Nat} {v : Int32} {q pr : Nat} (hq : q < 28) (hb : bt v q = true) : ∀ k, k ≤ 28 → cF pk v pr k = cF pk (clrB v q) pr k + (if q < k ∧ pk q = pr then 1 else 0)
  | 0, _ => by rw [if_neg (fun z => absurd z.1 (Nat.not_lt_zero q))]; rfl
  | k + 1, h => by
    have ih := cF_clr (pk := pk) (pr := pr) hq hb k (by omega)
    simp only [cF]
    rw [clr_bt (by omega) (by omega), ih]
    by_cases e : k = q
    · subst e
      rw [hb]
      by_cases p : pk k = pr
      · simp [p]
      · simp [p]
    · have e1 : (decide (k = q)) = false := decide_eq_false e
      rw [e1]
      have e2 : (q < k + 1 ∧ pk q = pr) ↔ (q < k ∧ pk q = pr) := by
        constructor
        · rintro ⟨a, b⟩; exact ⟨by omega, b⟩
        · rintro ⟨a, b⟩; exact ⟨by omega, b⟩
      simp only [Bool.not_false, Bool.and_true, e2]
      omega
theorem toF_clr {v : Int32} {q : Nat} (hq : q < 28) (hb : bt v q = true) : ∀ k, k ≤ 28 → toF v k = toF (clrB v q) k + (if q < k then 1 else 0)
  | 0, _ => by rw [if_neg (Nat.not_lt_zero q)]; rfl
  | k + 1, h => by
    have ih := toF_clr hq hb k (by omega)
    simp only [toF]
    rw [clr_bt (by omega) (by omega), ih]
    by_cases e : k = q
    · subst e
      rw [hb]
      simp
    · have e1 : (decide (k = q)) = false := decide_eq_false e
      rw [e1]
      have e2 : (q < k + 1) ↔ (q < k) := by omega
      simp only [Bool.not_false, Bool.and_true, e2]
      omega
theorem cF_0 {pk : Nat → Nat} {v : Int32} {pr : Nat} : ∀ k, cF pk v pr k = 0 → ∀ j, j < k → bt v j = true → pk j ≠ pr
  | 0, _, j, hj, _ => absurd hj (Nat.not_lt_zero j)
  | k + 1, h, j, hj, hb => by
    simp only [cF] at h
    by_cases e : j = k
    · subst e
      intro p
      rw [if_pos ⟨hb, p⟩] at h
      omega
    · exact cF_0 k (by omega) j (by omega) hb
theorem cF_1 {pk : Nat → Nat} {v : Int32} {pr : Nat} : ∀ k, cF pk v pr k ≠ 0 → ∃ j, j < k ∧ bt v j = true ∧ pk j = pr
  | 0, h => absurd rfl h
  | k + 1, h => by
    by_cases c : bt v k = true ∧ pk k = pr
    · exact ⟨k, by omega, c⟩
    · simp only [cF] at h
      rw [if_neg c] at h
      obtain ⟨j, a, b⟩ := cF_1 k (by omega)
      exact ⟨j, by omega, b⟩
theorem toF_1 {v : Int32} : ∀ k j, j < k → bt v j = true → 1 ≤ toF v k
  | 0, j, hj, _ => absurd hj (Nat.not_lt_zero j)
  | k + 1, j, hj, hb => by
    simp only [toF]
    by_cases e : j = k
    · subst e; rw [if_pos hb]; omega
    · have := toF_1 k j (by omega) hb
      omega
theorem toF_le (v : Int32) : ∀ k, toF v k ≤ k
  | 0 => Nat.le_refl _
  | k + 1 => by
    have := toF_le v k
    simp only [toF]
    split <;> omega
noncomputable def gF (pk : Nat → Nat) : Nat → Int32 → Nat → Nat
  | 0, _, _ => 0
  | m + 1, v, money => if lsF (fun _ => 0) pk v 28 = 28 then 0 else if money < pk (lsF (fun _ => 0) pk v 28) then 0 else 1 + gF pk m (clrB v (lsF (fun _ => 0) pk v 28)) (money - pk (lsF (fun _ => 0) pk v 28))
def rF (pk : Nat → Nat) : Nat → Nat → Nat → Int32 → Nat
  | 0, _, _, _ => 0
  | f + 1, pr, money, v => if money < pr then 0 else if cF pk v pr 28 ≤ (if pr = 0 then cF pk v pr 28 else money / pr) then cF pk v pr 28 + rF pk f (pr + 1) (money - cF pk v pr 28 * pr) v else money / pr
theorem rF_c {pk : Nat → Nat} {v w : Int32} : ∀ f pr money, (∀ x, pr ≤ x → cF pk v x 28 = cF pk w x 28) → rF pk f pr money v = rF pk f pr money w
  | 0, _, _, _ => rfl
  | f + 1, pr, money, h => by
    simp only [rF]
    rw [h pr (Nat.le_refl _), rF_c f (pr + 1) _ (fun x hx => h x (by omega))]
theorem rF_s {pk : Nat → Nat} {v : Int32} (f pr money : Nat) (h : money < pr) : rF pk f pr money v = 0 := by
  cases f with
  | zero => rfl
  | succ f => simp only [rF]; rw [if_pos h]
/-- one of the least price is bought: both go on alike -/
theorem rF_one {pk : Nat → Nat} {v : Int32} {q pr f money : Nat} (hq : q < 28) (hb : bt v q = true) (hp : pk q = pr) (hm : pr ≤ money) : rF pk (f + 1) pr money v = 1 + rF pk (f + 1) pr (money - pr) (clrB v q) := by
  have e0 : cF pk v pr 28 = cF pk (clrB v q) pr 28 + 1 := by
    have := cF_clr (pk := pk) (pr := pr) hq hb 28 (Nat.le_refl _)
    rw [if_pos ⟨hq, hp⟩] at this
    exact this
  have ex : ∀ x, pr + 1 ≤ x → cF pk v x 28 = cF pk (clrB v q) x 28 := by
    intro x hx
    have := cF_clr (pk := pk) (pr := x) hq hb 28 (Nat.le_refl _)
    rw [if_neg (fun z => by omega)] at this
    exact this
  have er : ∀ y, rF pk f (pr + 1) y v = rF pk f (pr + 1) y (clrB v q) := fun y => rF_c f (pr + 1) y ex
  simp only [rF]
  rw [if_neg (show ¬ money < pr by omega), er]
  rw [e0]
  generalize cF pk (clrB v q) pr 28 = c
  by_cases p0 : pr = 0
  · subst p0
    simp only [if_true, Nat.le_refl, Nat.mul_zero, Nat.sub_zero, Nat.not_lt_zero, if_false]
    omega
  · simp only [if_neg p0]
    have hd : money / pr = (money - pr) / pr + 1 := by
      have : money = (money - pr) + pr := by omega
      rw [this, Nat.add_div_right _ (by omega), Nat.add_sub_cancel]
    rw [hd]
    by_cases s : money - pr < pr
    · rw [if_pos s]
      have d0 : (money - pr) / pr = 0 := Nat.div_eq_of_lt s
      rw [d0]
      by_cases c0 : c + 1 ≤ 0 + 1
      · have : c = 0 := by omega
        subst this
        rw [if_pos c0, rF_s _ _ _ (by omega)]
      · rw [if_neg c0]
    · rw [if_neg s]
      by_cases c0 : c + 1 ≤ (money - pr) / pr + 1
      · rw [if_pos c0, if_pos (show c ≤ (money - pr) / pr by omega)]
        have : money - (c + 1) * pr = money - pr - c * pr := by rw [Nat.succ_mul]; omega
        rw [this]
        omega
      · rw [if_neg c0, if_neg (show ¬ c ≤ (money - pr) / pr by omega)]
        omega
theorem g_r {pk : Nat → Nat} : ∀ f pr, pr + f = 1000 → ∀ c m v money, cF pk v pr 28 = c → (∀ j, j < 28 → bt v j = true → pr ≤ pk j ∧ pk j < 1000) → toF v 28 ≤ m → gF pk m v money = rF pk f pr money v
  | 0, pr, hf, c, m, v, money, hc, hv, hm => by
    have no : ∀ j, j < 28 → ¬ bt v j = true := fun j hj hb => by have := hv j hj hb; omega
    have ls := lsF_ok (hk := fun _ => 0) (pk := pk) (v := v) 28 (Nat.le_refl _)
    cases m with
    | zero => rfl
    | succ m =>
      simp only [gF, rF]
      rcases ls with ⟨i1, -⟩ | ⟨i1, i2, -⟩
      · rw [if_pos i1]
      · exact absurd i2 (no _ i1)
  | f + 1, pr, hf, 0, m, v, money, hc, hv, hm => by
    have hv2 : ∀ j, j < 28 → bt v j = true → pr + 1 ≤ pk j ∧ pk j < 1000 := fun j hj hb => by
      have a := hv j hj hb
      have b := cF_0 28 hc j hj hb
      omega
    have ih := g_r f (pr + 1) (by omega) _ m v money rfl hv2 hm
    by_cases s : money < pr
    · rw [ih, rF_s _ _ _ s, rF_s _ _ _ (by omega)]
    · rw [ih]
      simp only [rF]
      rw [if_neg s, hc, if_pos (Nat.zero_le _), Nat.zero_mul, Nat.sub_zero, Nat.zero_add]
  | f + 1, pr, hf, c + 1, m, v, money, hc, hv, hm => by
    obtain ⟨j, j1, j2, j3⟩ := cF_1 28 (by rw [hc]; omega)
    have tot := toF_1 28 j j1 j2
    obtain ⟨m', rfl⟩ : ∃ m', m = m' + 1 := ⟨m - 1, by omega⟩
    have ls := lsF_ok (hk := fun _ => 0) (pk := pk) (v := v) 28 (Nat.le_refl _)
    simp only [gF]
    rcases ls with ⟨-, i2⟩ | ⟨i1, i2, i3, -⟩
    · exact absurd j2 (i2 j j1)
    · generalize lsF (fun _ => 0) pk v 28 = q at i1 i2 i3
      have hp : pk q = pr := by
        have a := (hv q i1 i2).1
        have b : ¬ ((0 : Nat) < 0 ∨ ((0 : Nat) = 0 ∧ pk j < pk q)) := i3 j j1 j2
        omega
      rw [if_neg (show ¬ q = 28 by omega), hp]
      by_cases s : money < pr
      · rw [if_pos s, rF_s _ _ _ s]
      · rw [if_neg s, rF_one i1 i2 hp (by omega)]
        congr 1
        have ec := cF_clr (pk := pk) (pr := pr) i1 i2 28 (Nat.le_refl _)
        rw [if_pos ⟨i1, hp⟩] at ec
        have et := toF_clr i1 i2 28 (Nat.le_refl _)
        rw [if_pos i1] at et
        refine g_r (f + 1) pr hf c m' (clrB v q) (money - pr) (by omega) (fun j hj hb => ?_) (by omega)
        rw [clr_bt (by omega) (by omega), Bool.and_eq_true] at hb
        exact hv j hj hb.1
  termination_by f _ _ c => (f, c)

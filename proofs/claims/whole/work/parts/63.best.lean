/-! promise 26: the best days, one by one, are the best row -/
def rw3 (x y z : Nat) (i : Nat) : Nat := if i = 0 then x else if i = 1 then y else z
def VR (v : Int32) (n : Nat) (r : Nat → Nat) : Prop := ∀ i, i < n → (r i < 28 ∧ bt v (r i) = true) ∧ (i + 1 < n → r i < r (i + 1))
/-- a row stands ahead of another, as far as n -/
def Lx (n : Nat) (a b : Nat → Nat) : Prop := ∃ i, i < n ∧ (∀ j, j < i → a j = b j) ∧ a i < b i
def Ag (n : Nat) (a b : Nat → Nat) : Prop := ∀ j, j < n → a j = b j
def sF (f r : Nat → Nat) : Nat → Nat
  | 0 => 0
  | k + 1 => sF f r k + f (r k)
def Bt (w : Nat → Nat) (n : Nat) (a b : Nat → Nat) : Prop := sF w a n < sF w b n ∨ (sF w a n = sF w b n ∧ Lx n a b)
def Pr (w : Nat → Nat) (a b : Nat) : Prop := 28 * w a + a < 28 * w b + b
def wF (hk pk : Nat → Nat) (j : Nat) : Nat := 4000 * hk j + pk j
def DS (v : Int32) (w : Nat → Nat) (n : Nat) (g : Nat → Nat) : Prop := ∀ j, j < 28 → bt v j = true → (∀ i, i < n → j ≠ g i) → ∀ i, i < n → Pr w (g i) j
theorem ex3 (w : Nat → Nat) {x y z a b c : Nat} (hx : x < y) (hy : y < z) (hz : z < 28) (ha : a < b) (hb : b < c) (hc : c < 28) (ca : (a = x ∨ a = y ∨ a = z) ∨ Pr w x a ∧ Pr w y a ∧ Pr w z a) (cb : (b = x ∨ b = y ∨ b = z) ∨ Pr w x b ∧ Pr w y b ∧ Pr w z b) (cc : (c = x ∨ c = y ∨ c = z) ∨ Pr w x c ∧ Pr w y c ∧ Pr w z c) : (a = x ∧ b = y ∧ c = z) ∨ (w x + w y + w z < w a + w b + w c ∨ (w x + w y + w z = w a + w b + w c ∧ (x < a ∨ (x = a ∧ y < b) ∨ (x = a ∧ y = b ∧ z < c)))) := by
  unfold Pr at ca cb cc
  rcases ca with (e | e | e) | ⟨a1, a2, a3⟩ <;> rcases cb with (e' | e' | e') | ⟨b1, b2, b3⟩ <;> rcases cc with (e'' | e'' | e'') | ⟨c1, c2, c3⟩ <;> (try subst e) <;> (try subst e') <;> (try subst e'') <;> first | (exfalso; omega) | omega
theorem ex2 (w : Nat → Nat) {x y a b : Nat} (hx : x < y) (hz : y < 28) (ha : a < b) (hc : b < 28) (ca : (a = x ∨ a = y) ∨ Pr w x a ∧ Pr w y a) (cb : (b = x ∨ b = y) ∨ Pr w x b ∧ Pr w y b) : (a = x ∧ b = y) ∨ (w x + w y < w a + w b ∨ (w x + w y = w a + w b ∧ (x < a ∨ (x = a ∧ y < b)))) := by
  unfold Pr at ca cb
  rcases ca with (e | e) | ⟨a1, a2⟩ <;> rcases cb with (e' | e') | ⟨b1, b2⟩ <;> (try subst e) <;> (try subst e') <;> first | (exfalso; omega) | omega
theorem best_of {v : Int32} {n : Nat} {w g r : Nat → Nat} (h1 : 1 ≤ n) (h3 : n ≤ 3) (hg : VR v n g) (ds : DS v w n g) (hr : VR v n r) : Ag n r g ∨ Bt w n g r := by
  rcases (by omega : n = 1 ∨ n = 2 ∨ n = 3) with rfl | rfl | rfl
  · obtain ⟨⟨r1, r2⟩, -⟩ := hr 0 (by decide)
    obtain ⟨⟨g1, g2⟩, -⟩ := hg 0 (by decide)
    by_cases e : r 0 = g 0
    · exact Or.inl (fun j hj => by have : j = 0 := by omega
                                   subst this; exact e)
    · have d := ds (r 0) r1 r2 (fun i hi => by have : i = 0 := by omega
                                               subst this; exact e) 0 (by decide)
      unfold Pr at d
      refine Or.inr ?_
      unfold Bt
      simp only [sF, Nat.zero_add, Nat.reduceAdd]
      by_cases z : w (g 0) < w (r 0)
      · exact Or.inl (by omega)
      · exact Or.inr ⟨by omega, 0, by decide, fun j hj => absurd hj (Nat.not_lt_zero j), by omega⟩
  · have c : ∀ i, i < 2 → (r i = g 0 ∨ r i = g 1) ∨ Pr w (g 0) (r i) ∧ Pr w (g 1) (r i) := by
      intro i hi
      obtain ⟨⟨r1, r2⟩, -⟩ := hr i hi
      by_cases e0 : r i = g 0
      · exact Or.inl (Or.inl e0)
      · by_cases e1 : r i = g 1
        · exact Or.inl (Or.inr e1)
        · have d := ds (r i) r1 r2 (fun k hk => by
            rcases (by omega : k = 0 ∨ k = 1) with rfl | rfl
            · exact e0
            · exact e1)
          exact Or.inr ⟨d 0 (by decide), d 1 (by decide)⟩
    have k := ex2 w ((hg 0 (by decide)).2 (by decide)) (hg 1 (by decide)).1.1 ((hr 0 (by decide)).2 (by decide)) (hr 1 (by decide)).1.1 (c 0 (by decide)) (c 1 (by decide))
    rcases k with ⟨e0, e1⟩ | k
    · refine Or.inl (fun j hj => ?_)
      rcases (by omega : j = 0 ∨ j = 1) with rfl | rfl
      · exact e0
      · exact e1
    · refine Or.inr ?_
      unfold Bt
      simp only [sF, Nat.zero_add, Nat.reduceAdd]
      rcases k with k | ⟨k, l⟩
      · exact Or.inl (by omega)
      · refine Or.inr ⟨by omega, ?_⟩
        rcases l with l | ⟨l1, l⟩
        · exact ⟨0, by decide, fun j hj => absurd hj (Nat.not_lt_zero j), l⟩
        · exact ⟨1, by decide, fun j hj => by
            have : j = 0 := by omega
            subst this; exact l1, l⟩
  · have c : ∀ i, i < 3 → (r i = g 0 ∨ r i = g 1 ∨ r i = g 2) ∨ Pr w (g 0) (r i) ∧ Pr w (g 1) (r i) ∧ Pr w (g 2) (r i) := by
      intro i hi
      obtain ⟨⟨r1, r2⟩, -⟩ := hr i hi
      by_cases e0 : r i = g 0
      · exact Or.inl (Or.inl e0)
      · by_cases e1 : r i = g 1
        · exact Or.inl (Or.inr (Or.inl e1))
        · by_cases e2 : r i = g 2
          · exact Or.inl (Or.inr (Or.inr e2))
          · have d := ds (r i) r1 r2 (fun k hk => by
              rcases (by omega : k = 0 ∨ k = 1 ∨ k = 2) with rfl | rfl | rfl
              · exact e0
              · exact e1
              · exact e2)
            exact Or.inr ⟨d 0 (by decide), d 1 (by decide), d 2 (by decide)⟩
    have k := ex3 w ((hg 0 (by decide)).2 (by decide)) ((hg 1 (by decide)).2 (by decide)) (hg 2 (by decide)).1.1 ((hr 0 (by decide)).2 (by decide)) ((hr 1 (by decide)).2 (by decide)) (hr 2 (by decide)).1.1 (c 0 (by decide)) (c 1 (by decide)) (c 2 (by decide))
    rcases k with ⟨e0, e1, e2⟩ | k
    · refine Or.inl (fun j hj => ?_)
      rcases (by omega : j = 0 ∨ j = 1 ∨ j = 2) with rfl | rfl | rfl
      · exact e0
      · exact e1
      · exact e2
    · refine Or.inr ?_
      unfold Bt
      simp only [sF, Nat.zero_add, Nat.reduceAdd]
      rcases k with k | ⟨k, l⟩
      · exact Or.inl (by omega)
      · refine Or.inr ⟨by omega, ?_⟩
        rcases l with l | ⟨l1, l⟩ | ⟨l1, l2, l⟩
        · exact ⟨0, by decide, fun j hj => absurd hj (Nat.not_lt_zero j), l⟩
        · exact ⟨1, by decide, fun j hj => by
            have : j = 0 := by omega
            subst this; exact l1, l⟩
        · exact ⟨2, by decide, fun j hj => by
            rcases (by omega : j = 0 ∨ j = 1) with rfl | rfl
            · exact l1
            · exact l2, l⟩
/-! sets, one day more -/
def orB (v : Int32) (q : Nat) : Int32 := v ||| ((nI 1) <<< ((nI q) &&& 31))
def suF (f : Nat → Nat) (v : Int32) : Nat → Nat
  | 0 => 0
  | k + 1 => suF f v k + (if bt v k = true then f k else 0)
theorem orB_bt {v : Int32} {q j : Nat} (hq : q < 32) (hj : j < 32) : bt (orB v q) j = true ↔ bt v j = true ∨ j = q := by
  unfold orB
  rw [bt_or hq hj, Bool.or_eq_true, decide_eq_true_iff]
theorem suF_or {f : Nat → Nat} {v : Int32} {q : Nat} (hq : q < 28) (hb : ¬ bt v q = true) : ∀ k, k ≤ 28 → suF f (orB v q) k = suF f v k + (if q < k then f q else 0)
  | 0, _ => by rw [if_neg (Nat.not_lt_zero q)]; rfl
  | k + 1, h => by
    have ih := suF_or (f := f) hq hb k (by omega)
    simp only [suF]
    rw [ih]
    by_cases e : k = q
    · subst e
      rw [if_pos ((orB_bt (by omega) (by omega)).mpr (Or.inr rfl)), if_neg hb, if_neg (Nat.lt_irrefl k), if_pos (Nat.lt_succ_self k)]
    · have e2 : (q < k + 1) ↔ (q < k) := by omega
      by_cases c : bt v k = true
      · rw [if_pos c, if_pos ((orB_bt (by omega) (by omega)).mpr (Or.inl c))]
        simp only [e2]; omega
      · rw [if_neg c, if_neg (fun z => ((orB_bt (by omega) (by omega)).mp z).elim c e)]
        simp only [e2]; omega
theorem suF_0 {f : Nat → Nat} : ∀ k, suF f (nI 0) k = 0
  | 0 => rfl
  | k + 1 => by
    simp only [suF]
    rw [suF_0 k, bt_0]
    rfl
theorem suF_1 {v : Int32} : ∀ k, suF (fun _ => 1) v k = toF v k
  | 0 => rfl
  | k + 1 => by simp only [suF, toF]; rw [suF_1 k]
theorem toF_sub {v t : Int32} : ∀ k, (∀ j, j < k → bt v j = true → bt t j = true) → toF v k ≤ toF t k
  | 0, _ => Nat.le_refl _
  | k + 1, h => by
    have ih := toF_sub (v := v) (t := t) k (fun j hj => h j (by omega))
    simp only [toF]
    by_cases c : bt v k = true
    · rw [if_pos c, if_pos (h k (by omega) c)]; omega
    · rw [if_neg c]; omega
theorem toF_mono {v : Int32} {a : Nat} : ∀ b, a ≤ b → toF v a ≤ toF v b
  | 0, h => by rw [Nat.le_zero.mp h]; exact Nat.le_refl _
  | b + 1, h => by
    by_cases e : a = b + 1
    · rw [e]; exact Nat.le_refl _
    · have := toF_mono (v := v) (a := a) b (by omega)
      simp only [toF]
      omega
theorem VR_to {v : Int32} {n : Nat} {r : Nat → Nat} (h : VR v n r) : ∀ i, i < n → i + 1 ≤ toF v (r i + 1)
  | 0, hi => by
    simp only [toF]
    rw [if_pos (h 0 hi).1.2]; omega
  | i + 1, hi => by
    have ih := VR_to h i (by omega)
    have l := (h i (by omega)).2 hi
    have m := toF_mono (v := v) (a := r i + 1) (r (i + 1)) (by omega)
    have e : toF v (r (i + 1) + 1) = toF v (r (i + 1)) + 1 := by
      simp only [toF]
      rw [if_pos (h (i + 1) hi).1.2]
    rw [e]
    omega
theorem VR_le {v : Int32} {n : Nat} {r : Nat → Nat} (h : VR v n r) (hn : 1 ≤ n) : n ≤ toF v 28 := by
  have a := VR_to h (n - 1) (by omega)
  have b := (h (n - 1) (by omega)).1.1
  have c := toF_mono (v := v) (a := r (n - 1) + 1) 28 (by omega)
  omega
theorem toF_more {v t : Int32} (h : toF t 28 < toF v 28) : ∃ j, j < 28 ∧ bt v j = true ∧ ¬ bt t j = true := by
  apply Classical.byContradiction
  intro n
  have := toF_sub (v := v) (t := t) 28 (fun j hj hb => Classical.byContradiction (fun c => n ⟨j, hj, hb, c⟩))
  omega
theorem bt_inv {v : Int32} {j : Nat} (hj : j < 32) : bt (v ^^^ (-1 : Int32)) j = !bt v j := by
  unfold bt
  rw [Int32.toBitVec_xor, BitVec.getLsbD_xor]
  have : ∀ j, j < 32 → (-1 : Int32).toBitVec.getLsbD j = true := by decide
  rw [this j hj, Bool.xor_true]
noncomputable def tkF (hk pk : Nat → Nat) (v : Int32) : Nat → Int32
  | 0 => nI 0
  | i + 1 => if lsF hk pk (v &&& (tkF hk pk v i ^^^ (-1 : Int32))) 28 = 28 then tkF hk pk v i else orB (tkF hk pk v i) (lsF hk pk (v &&& (tkF hk pk v i ^^^ (-1 : Int32))) 28)
/-- one day more is the best of those that are left -/
theorem tk_step {hk pk : Nat → Nat} {v : Int32} {i : Nat} (hp : ∀ j, j < 28 → pk j < 1000) (hi : toF (tkF hk pk v i) 28 < toF v 28) : ∃ q, q < 28 ∧ bt v q = true ∧ ¬ bt (tkF hk pk v i) q = true ∧ tkF hk pk v (i + 1) = orB (tkF hk pk v i) q ∧ ∀ j, j < 28 → bt v j = true → ¬ bt (tkF hk pk v i) j = true → j ≠ q → Pr (wF hk pk) q j := by
  obtain ⟨j0, a1, a2, a3⟩ := toF_more hi
  have ls := lsF_ok (hk := hk) (pk := pk) (v := v &&& (tkF hk pk v i ^^^ (-1 : Int32))) 28 (Nat.le_refl _)
  have es : tkF hk pk v (i + 1) = if lsF hk pk (v &&& (tkF hk pk v i ^^^ (-1 : Int32))) 28 = 28 then tkF hk pk v i else orB (tkF hk pk v i) (lsF hk pk (v &&& (tkF hk pk v i ^^^ (-1 : Int32))) 28) := rfl
  rw [es]
  generalize tkF hk pk v i = t at *
  generalize lsF hk pk (v &&& (t ^^^ (-1 : Int32))) 28 = q at *
  have bu : ∀ j, j < 28 → (bt (v &&& (t ^^^ (-1 : Int32))) j = true ↔ bt v j = true ∧ ¬ bt t j = true) := by
    intro j hj
    rw [bt_and, bt_inv (by omega), Bool.and_eq_true]
    cases bt t j <;> simp
  rcases ls with ⟨-, l2⟩ | ⟨l1, l2, l3, l4⟩
  · exact absurd ((bu j0 a1).mpr ⟨a2, a3⟩) (l2 j0 a1)
  · obtain ⟨b1, b2⟩ := (bu q l1).mp l2
    refine ⟨q, l1, b1, b2, if_neg (by omega), fun j hj c1 c2 c3 => ?_⟩
    have m := (bu j hj).mpr ⟨c1, c2⟩
    have n1 := l3 j hj m
    have n2 := l4 j
    have p1 := hp j hj
    have p2 := hp q l1
    unfold ltK at n1 n2
    unfold Pr wF
    by_cases lt : j < q
    · have n2 := n2 lt m
      omega
    · omega
theorem arr2 {a b : Nat} (h : a ≠ b) : ∃ x y, x < y ∧ (∀ f : Nat → Nat, f a + f b = f x + f y) ∧ (∀ P : Nat → Prop, P a → P b → P x ∧ P y) ∧ (∀ P : Nat → Prop, P x → P y → P a ∧ P b) := by
  by_cases c : a < b
  · exact ⟨a, b, c, fun f => rfl, fun P p q => ⟨p, q⟩, fun P p q => ⟨p, q⟩⟩
  · exact ⟨b, a, by omega, fun f => Nat.add_comm _ _, fun P p q => ⟨q, p⟩, fun P p q => ⟨q, p⟩⟩
theorem arr3 {a b c : Nat} (h1 : a ≠ b) (h2 : a ≠ c) (h3 : b ≠ c) : ∃ x y z, x < y ∧ y < z ∧ (∀ f : Nat → Nat, f a + f b + f c = f x + f y + f z) ∧ (∀ P : Nat → Prop, P a → P b → P c → P x ∧ P y ∧ P z) ∧ (∀ P : Nat → Prop, P x → P y → P z → P a ∧ P b ∧ P c) := by
  by_cases c1 : a < b
  · by_cases c2 : b < c
    · exact ⟨a, b, c, c1, c2, fun f => rfl, fun P p q r => ⟨p, q, r⟩, fun P p q r => ⟨p, q, r⟩⟩
    · by_cases c3 : a < c
      · exact ⟨a, c, b, c3, by omega, fun f => by omega, fun P p q r => ⟨p, r, q⟩, fun P p q r => ⟨p, r, q⟩⟩
      · exact ⟨c, a, b, by omega, c1, fun f => by omega, fun P p q r => ⟨r, p, q⟩, fun P p q r => ⟨q, r, p⟩⟩
  · by_cases c2 : a < c
    · exact ⟨b, a, c, by omega, c2, fun f => by omega, fun P p q r => ⟨q, p, r⟩, fun P p q r => ⟨q, p, r⟩⟩
    · by_cases c3 : b < c
      · exact ⟨b, c, a, c3, by omega, fun f => by omega, fun P p q r => ⟨q, r, p⟩, fun P p q r => ⟨r, p, q⟩⟩
      · exact ⟨c, b, a, by omega, by omega, fun f => by omega, fun P p q r => ⟨r, q, p⟩, fun P p q r => ⟨r, q, p⟩⟩
theorem tk_ok {hk pk : Nat → Nat} {v : Int32} (hp : ∀ j, j < 28 → pk j < 1000) {n : Nat} (h1 : 1 ≤ n) (h3 : n ≤ 3) (hn : n ≤ toF v 28) : ∃ g, VR v n g ∧ (∀ f, suF f (tkF hk pk v n) 28 = sF f g n) ∧ (∀ i, i < n → bt (tkF hk pk v n) (g i) = true ∧ toF (tkF hk pk v n) (g i) = i) ∧ DS v (wF hk pk) n g := by
  have z0 : ∀ j, ¬ bt (tkF hk pk v 0) j = true := fun j => by
    show ¬ bt (nI 0) j = true
    rw [bt_0]; exact Bool.false_ne_true
  have s0 : ∀ f k, suF f (tkF hk pk v 0) k = 0 := fun f k => suF_0 k
  have i0 : toF (tkF hk pk v 0) 28 = 0 := by rw [← suF_1]; exact s0 _ _
  obtain ⟨a, a1, a2, a3, a4, a5⟩ := tk_step (hk := hk) (v := v) (i := 0) hp (by omega)
  have s1 : ∀ f k, k ≤ 28 → suF f (tkF hk pk v (0 + 1)) k = (if a < k then f a else 0) := fun f k hk' => by
    rw [a4, suF_or a1 a3 k hk', s0, Nat.zero_add]
  have b1 : ∀ j, j < 28 → (bt (tkF hk pk v (0 + 1)) j = true ↔ j = a) := fun j hj => by
    rw [a4, orB_bt (by omega) (by omega)]
    exact ⟨fun z => z.elim (fun y => absurd y (z0 j)) id, Or.inr⟩
  rcases (by omega : n = 1 ∨ 2 ≤ n) with rfl | hn2
  · refine ⟨rw3 a 0 0, fun i hi => ?_, fun f => ?_, fun i hi => ?_, fun j hj c1 c2 i hi => ?_⟩
    · have : i = 0 := by omega
      subst this
      exact ⟨⟨a1, a2⟩, fun z => absurd z (by decide)⟩
    · rw [s1 f 28 (Nat.le_refl _), if_pos a1]; simp only [sF, rw3, if_true, Nat.zero_add]
    · have : i = 0 := by omega
      subst this
      refine ⟨(b1 a a1).mpr rfl, ?_⟩
      have t1 : toF (tkF hk pk v (0 + 1)) a = 0 := by
        rw [← suF_1, s1 _ _ (Nat.le_of_lt a1)]
        exact if_neg (Nat.lt_irrefl a)
      exact t1
    · have : i = 0 := by omega
      subst this
      exact a5 j hj c1 (z0 j) (c2 0 (by decide))
  have i1 : toF (tkF hk pk v (0 + 1)) 28 = 1 := by rw [← suF_1, s1 _ _ (Nat.le_refl _), if_pos a1]
  obtain ⟨b, c1, c2, c3, c4, c5⟩ := tk_step (hk := hk) (v := v) (i := 0 + 1) hp (by omega)
  have nab : a ≠ b := fun e => c3 ((b1 b c1).mpr e.symm)
  have s2 : ∀ f k, k ≤ 28 → suF f (tkF hk pk v (0 + 1 + 1)) k = (if a < k then f a else 0) + (if b < k then f b else 0) := fun f k hk' => by
    rw [c4, suF_or c1 c3 k hk', s1 f k hk']
  have b2 : ∀ j, j < 28 → (bt (tkF hk pk v (0 + 1 + 1)) j = true ↔ j = a ∨ j = b) := fun j hj => by
    rw [c4, orB_bt (by omega) (by omega), b1 j hj]
  rcases (by omega : n = 2 ∨ 3 ≤ n) with rfl | hn3
  · obtain ⟨x, y, xy, eF, eP, eQ⟩ := arr2 nab
    have x28 := eP (fun q => q < 28) a1 c1
    have xb := eP (fun q => bt v q = true) a2 c2
    have xt := eP (fun q => bt (tkF hk pk v (0 + 1 + 1)) q = true) ((b2 a a1).mpr (Or.inl rfl)) ((b2 b c1).mpr (Or.inr rfl))
    have to : ∀ k, k ≤ 28 → toF (tkF hk pk v (0 + 1 + 1)) k = (if x < k then 1 else 0) + (if y < k then 1 else 0) := fun k hk' => by
      rw [← suF_1, s2 _ _ hk']
      exact eF (fun q => if q < k then 1 else 0)
    refine ⟨rw3 x y 0, fun i hi => ?_, fun f => ?_, fun i hi => ?_, fun j hj d1 d2 i hi => ?_⟩
    · rcases (by omega : i = 0 ∨ i = 1) with rfl | rfl
      · exact ⟨⟨x28.1, xb.1⟩, fun _ => xy⟩
      · exact ⟨⟨x28.2, xb.2⟩, fun z => absurd z (by decide)⟩
    · rw [s2 f 28 (Nat.le_refl _), if_pos a1, if_pos c1, eF f]
      show _ = 0 + f x + f y
      omega
    · rcases (by omega : i = 0 ∨ i = 1) with rfl | rfl
      · refine ⟨xt.1, (to x (by omega)).trans ?_⟩
        rw [if_neg (Nat.lt_irrefl x), if_neg (by omega)]
      · refine ⟨xt.2, (to y (by omega)).trans ?_⟩
        rw [if_pos xy, if_neg (Nat.lt_irrefl y)]
    · obtain ⟨na, nb⟩ := eQ (fun q => j ≠ q) (d2 0 (by decide)) (d2 1 (by decide))
      have pa := a5 j hj d1 (z0 j) na
      have pb := c5 j hj d1 (fun z => na ((b1 j hj).mp z)) nb
      obtain ⟨px, py⟩ := eP (fun q => Pr (wF hk pk) q j) pa pb
      rcases (by omega : i = 0 ∨ i = 1) with rfl | rfl
      · exact px
      · exact py
  have i2 : toF (tkF hk pk v (0 + 1 + 1)) 28 = 2 := by rw [← suF_1, s2 _ _ (Nat.le_refl _), if_pos a1, if_pos c1]
  obtain ⟨c, e1, e2, e3, e4, e5⟩ := tk_step (hk := hk) (v := v) (i := 0 + 1 + 1) hp (by omega)
  have nac : a ≠ c := fun e => e3 ((b2 c e1).mpr (Or.inl e.symm))
  have nbc : b ≠ c := fun e => e3 ((b2 c e1).mpr (Or.inr e.symm))
  have s3 : ∀ f k, k ≤ 28 → suF f (tkF hk pk v (0 + 1 + 1 + 1)) k = (if a < k then f a else 0) + (if b < k then f b else 0) + (if c < k then f c else 0) := fun f k hk' => by
    rw [e4, suF_or e1 e3 k hk', s2 f k hk']
  have b3 : ∀ j, j < 28 → (bt (tkF hk pk v (0 + 1 + 1 + 1)) j = true ↔ (j = a ∨ j = b) ∨ j = c) := fun j hj => by
    rw [e4, orB_bt (by omega) (by omega), b2 j hj]
  have : n = 3 := by omega
  subst this
  obtain ⟨x, y, z, xy, yz, eF, eP, eQ⟩ := arr3 nab nac nbc
  have x28 := eP (fun q => q < 28) a1 c1 e1
  have xb := eP (fun q => bt v q = true) a2 c2 e2
  have xt := eP (fun q => bt (tkF hk pk v (0 + 1 + 1 + 1)) q = true) ((b3 a a1).mpr (Or.inl (Or.inl rfl))) ((b3 b c1).mpr (Or.inl (Or.inr rfl))) ((b3 c e1).mpr (Or.inr rfl))
  have to : ∀ k, k ≤ 28 → toF (tkF hk pk v (0 + 1 + 1 + 1)) k = (if x < k then 1 else 0) + (if y < k then 1 else 0) + (if z < k then 1 else 0) := fun k hk' => by
    rw [← suF_1, s3 _ _ hk']
    exact eF (fun q => if q < k then 1 else 0)
  refine ⟨rw3 x y z, fun i hi => ?_, fun f => ?_, fun i hi => ?_, fun j hj d1 d2 i hi => ?_⟩
  · rcases (by omega : i = 0 ∨ i = 1 ∨ i = 2) with rfl | rfl | rfl
    · exact ⟨⟨x28.1, xb.1⟩, fun _ => xy⟩
    · exact ⟨⟨x28.2.1, xb.2.1⟩, fun _ => yz⟩
    · exact ⟨⟨x28.2.2, xb.2.2⟩, fun z => absurd z (by decide)⟩
  · rw [s3 f 28 (Nat.le_refl _), if_pos a1, if_pos c1, if_pos e1, eF f]
    show _ = 0 + f x + f y + f z
    omega
  · rcases (by omega : i = 0 ∨ i = 1 ∨ i = 2) with rfl | rfl | rfl
    · refine ⟨xt.1, (to x (by omega)).trans ?_⟩
      rw [if_neg (Nat.lt_irrefl x), if_neg (by omega), if_neg (by omega)]
    · refine ⟨xt.2.1, (to y (by omega)).trans ?_⟩
      rw [if_pos xy, if_neg (Nat.lt_irrefl y), if_neg (by omega)]
    · refine ⟨xt.2.2, (to z (by omega)).trans ?_⟩
      rw [if_pos (by omega), if_pos yz, if_neg (Nat.lt_irrefl z)]
  · obtain ⟨na, nb, nc⟩ := eQ (fun q => j ≠ q) (d2 0 (by decide)) (d2 1 (by decide)) (d2 2 (by decide))
    have pa := a5 j hj d1 (z0 j) na
    have pb := c5 j hj d1 (fun z => na ((b1 j hj).mp z)) nb
    have pc := e5 j hj d1 (fun z => ((b2 j hj).mp z).elim na nb) nc
    obtain ⟨px, py, pz⟩ := eP (fun q => Pr (wF hk pk) q j) pa pb pc
    rcases (by omega : i = 0 ∨ i = 1 ∨ i = 2) with rfl | rfl | rfl
    · exact px
    · exact py
    · exact pz

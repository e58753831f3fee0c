/-! promise 27: odds; how many bits, as the library counts them -/
theorem H16 {q r m s : Nat} (hr : r < 16) (hs : s < 16) : (r + 16 * q) &&& (s + 16 * m) = (r &&& s) + 16 * (q &&& m) := by
  apply Nat.eq_of_testBit_eq
  intro i
  have hrs : (r &&& s) < 2 ^ 4 := Nat.lt_of_le_of_lt Nat.and_le_left hr
  rw [Nat.testBit_and, Nat.add_comm r, Nat.add_comm s, Nat.add_comm (r &&& s), show (16 : Nat) = 2 ^ 4 from rfl, Nat.testBit_two_pow_mul_add q hr i, Nat.testBit_two_pow_mul_add m hs i, Nat.testBit_two_pow_mul_add (q &&& m) hrs i]
  split
  · rw [Nat.testBit_and]
  · rw [Nat.testBit_and]
def h8 (a b c d e f g h : Nat) : Nat := a + 16 * (b + 16 * (c + 16 * (d + 16 * (e + 16 * (f + 16 * (g + 16 * h))))))
theorem and8 {a b c d e f g h a' b' c' d' e' f' g' h' : Nat} (ha : a < 16) (hb : b < 16) (hc : c < 16) (hd : d < 16) (he : e < 16) (hf : f < 16) (hg : g < 16) (ha' : a' < 16) (hb' : b' < 16) (hc' : c' < 16) (hd' : d' < 16) (he' : e' < 16) (hf' : f' < 16) (hg' : g' < 16) : h8 a b c d e f g h &&& h8 a' b' c' d' e' f' g' h' = h8 (a &&& a') (b &&& b') (c &&& c') (d &&& d') (e &&& e') (f &&& f') (g &&& g') (h &&& h') := by
  unfold h8
  rw [H16 ha ha', H16 hb hb', H16 hc hc', H16 hd hd', H16 he he', H16 hf hf', H16 hg hg']
def bcN (x : Nat) : Nat :=
  let a := x - ((x / 2) &&& 1431655765)
  let b := (a &&& 858993459) + ((a / 4) &&& 858993459)
  let c := (b + b / 16) &&& 252645135
  let e := c + c / 256
  (e + e / 65536) &&& 63
def dA (n : Nat) : Nat := n - ((n / 2) &&& 5)
def dB (n : Nat) : Nat := dA n % 4 + dA n / 4
theorem dg1 : ∀ n, n < 16 → ∀ r, r < 2 → ((n / 2 + 8 * r) &&& 5) = (n / 2 &&& 5) ∧ (n / 2 &&& 5) ≤ n ∧ dA n < 16 ∧ dB n ≤ 4 := by decide
theorem dg2 : ∀ a, a < 16 → ∀ r, r < 4 → ((a / 4 + 4 * r) &&& 3) = a / 4 ∧ (a &&& 3) = a % 4 := by decide
theorem dg3 : ∀ a, a < 9 → (a &&& 15) = a ∧ (a &&& 0) = 0 := by decide
theorem dg4 : ∀ a, a < 2 → ∀ b, b < 2 → ∀ c, c < 2 → ∀ d, d < 2 → dB (a + 2 * b + 4 * c + 8 * d) = a + b + c + d := by decide
theorem bc_h8 {a b c d e f g : Nat} (ha : a < 16) (hb : b < 16) (hc : c < 16) (hd : d < 16) (he : e < 16) (hf : f < 16) (hg : g < 16) : bcN (h8 a b c d e f g 0) = dB a + dB b + dB c + dB d + dB e + dB f + dB g ∧ dB a + dB b + dB c + dB d + dB e + dB f + dB g ≤ 28 := by
  have s1 : h8 a b c d e f g 0 / 2 = h8 (a / 2 + 8 * (b % 2)) (b / 2 + 8 * (c % 2)) (c / 2 + 8 * (d % 2)) (d / 2 + 8 * (e % 2)) (e / 2 + 8 * (f % 2)) (f / 2 + 8 * (g % 2)) (g / 2 + 8 * 0) 0 := by unfold h8; omega
  obtain ⟨a1, a2, a3, a4⟩ := dg1 a ha (b % 2) (Nat.mod_lt _ (by decide))
  obtain ⟨b1, b2, b3, b4⟩ := dg1 b hb (c % 2) (Nat.mod_lt _ (by decide))
  obtain ⟨c1, c2, c3, c4⟩ := dg1 c hc (d % 2) (Nat.mod_lt _ (by decide))
  obtain ⟨d1, d2, d3, d4⟩ := dg1 d hd (e % 2) (Nat.mod_lt _ (by decide))
  obtain ⟨e1, e2, e3, e4⟩ := dg1 e he (f % 2) (Nat.mod_lt _ (by decide))
  obtain ⟨f1, f2, f3, f4⟩ := dg1 f hf (g % 2) (Nat.mod_lt _ (by decide))
  obtain ⟨g1, g2, g3, g4⟩ := dg1 g hg 0 (by decide)
  have s2 : (h8 a b c d e f g 0 / 2) &&& 1431655765 = h8 (a / 2 &&& 5) (b / 2 &&& 5) (c / 2 &&& 5) (d / 2 &&& 5) (e / 2 &&& 5) (f / 2 &&& 5) (g / 2 &&& 5) 0 := by
    rw [s1, show 1431655765 = h8 5 5 5 5 5 5 5 5 from rfl, and8 (by omega) (by omega) (by omega) (by omega) (by omega) (by omega) (by omega) (by decide) (by decide) (by decide) (by decide) (by decide) (by decide) (by decide), a1, b1, c1, d1, e1, f1, g1, Nat.zero_and]
  have s3 : h8 a b c d e f g 0 - ((h8 a b c d e f g 0 / 2) &&& 1431655765) = h8 (dA a) (dA b) (dA c) (dA d) (dA e) (dA f) (dA g) 0 := by
    rw [s2]
    unfold dA h8
    omega
  unfold bcN
  simp only []
  rw [s3]
  unfold dB at *
  generalize dA a = a at *
  generalize dA b = b at *
  generalize dA c = c at *
  generalize dA d = d at *
  generalize dA e = e at *
  generalize dA f = f at *
  generalize dA g = g at *
  have t1 : h8 a b c d e f g 0 / 4 = h8 (a / 4 + 4 * (b % 4)) (b / 4 + 4 * (c % 4)) (c / 4 + 4 * (d % 4)) (d / 4 + 4 * (e % 4)) (e / 4 + 4 * (f % 4)) (f / 4 + 4 * (g % 4)) (g / 4 + 4 * 0) 0 := by unfold h8; omega
  have t2 : (h8 a b c d e f g 0 / 4) &&& 858993459 = h8 (a / 4) (b / 4) (c / 4) (d / 4) (e / 4) (f / 4) (g / 4) 0 := by
    rw [t1, show 858993459 = h8 3 3 3 3 3 3 3 3 from rfl, and8 (by omega) (by omega) (by omega) (by omega) (by omega) (by omega) (by omega) (by decide) (by decide) (by decide) (by decide) (by decide) (by decide) (by decide), (dg2 a a3 _ (Nat.mod_lt _ (by decide))).1, (dg2 b b3 _ (Nat.mod_lt _ (by decide))).1, (dg2 c c3 _ (Nat.mod_lt _ (by decide))).1, (dg2 d d3 _ (Nat.mod_lt _ (by decide))).1, (dg2 e e3 _ (Nat.mod_lt _ (by decide))).1, (dg2 f f3 _ (Nat.mod_lt _ (by decide))).1, (dg2 g g3 0 (by decide)).1, Nat.zero_and]
  have t3 : (h8 a b c d e f g 0) &&& 858993459 = h8 (a % 4) (b % 4) (c % 4) (d % 4) (e % 4) (f % 4) (g % 4) 0 := by
    rw [show 858993459 = h8 3 3 3 3 3 3 3 3 from rfl, and8 a3 b3 c3 d3 e3 f3 g3 (by decide) (by decide) (by decide) (by decide) (by decide) (by decide) (by decide), (dg2 a a3 0 (by decide)).2, (dg2 b b3 0 (by decide)).2, (dg2 c c3 0 (by decide)).2, (dg2 d d3 0 (by decide)).2, (dg2 e e3 0 (by decide)).2, (dg2 f f3 0 (by decide)).2, (dg2 g g3 0 (by decide)).2, Nat.zero_and]
  rw [t2, t3]
  have t4 : h8 (a % 4) (b % 4) (c % 4) (d % 4) (e % 4) (f % 4) (g % 4) 0 + h8 (a / 4) (b / 4) (c / 4) (d / 4) (e / 4) (f / 4) (g / 4) 0 = h8 (a % 4 + a / 4) (b % 4 + b / 4) (c % 4 + c / 4) (d % 4 + d / 4) (e % 4 + e / 4) (f % 4 + f / 4) (g % 4 + g / 4) 0 := by unfold h8; omega
  rw [t4]
  clear t1 t2 t3 t4 s1 s2 s3 a1 a2 b1 b2 c1 c2 d1 d2 e1 e2 f1 f2 g1 g2
  generalize a % 4 + a / 4 = a at *
  generalize b % 4 + b / 4 = b at *
  generalize c % 4 + c / 4 = c at *
  generalize d % 4 + d / 4 = d at *
  generalize e % 4 + e / 4 = e at *
  generalize f % 4 + f / 4 = f at *
  generalize g % 4 + g / 4 = g at *
  have u1 : h8 a b c d e f g 0 + h8 a b c d e f g 0 / 16 = h8 (a + b) (b + c) (c + d) (d + e) (e + f) (f + g) g 0 := by unfold h8; omega
  have u2 : h8 (a + b) (b + c) (c + d) (d + e) (e + f) (f + g) g 0 &&& 252645135 = h8 (a + b) 0 (c + d) 0 (e + f) 0 g 0 := by
    rw [show 252645135 = h8 15 0 15 0 15 0 15 0 from rfl, and8 (by omega) (by omega) (by omega) (by omega) (by omega) (by omega) (by omega) (by decide) (by decide) (by decide) (by decide) (by decide) (by decide) (by decide), (dg3 (a + b) (by omega)).1, (dg3 (b + c) (by omega)).2, (dg3 (c + d) (by omega)).1, (dg3 (d + e) (by omega)).2, (dg3 (e + f) (by omega)).1, (dg3 (f + g) (by omega)).2, (dg3 g (by omega)).1, Nat.zero_and]
  rw [u1, u2, show 63 = 2 ^ 6 - 1 from rfl, Nat.and_two_pow_sub_one_eq_mod]
  clear u1 u2
  have key : ∀ s0 s1 s2 s3 : Nat, s0 ≤ 8 → s1 ≤ 8 → s2 ≤ 8 → s3 ≤ 4 → ((s0 + 256 * s1 + 65536 * s2 + 16777216 * s3) + (s0 + 256 * s1 + 65536 * s2 + 16777216 * s3) / 256 + ((s0 + 256 * s1 + 65536 * s2 + 16777216 * s3) + (s0 + 256 * s1 + 65536 * s2 + 16777216 * s3) / 256) / 65536) % 2 ^ 6 = s0 + s1 + s2 + s3 := by
    intro s0 s1 s2 s3 l0 l1 l2 l3
    have w1 : (s0 + 256 * s1 + 65536 * s2 + 16777216 * s3) / 256 = s1 + 256 * s2 + 65536 * s3 := by omega
    rw [w1]
    have w2 : (s0 + 256 * s1 + 65536 * s2 + 16777216 * s3 + (s1 + 256 * s2 + 65536 * s3)) / 65536 = s2 + s3 + 256 * s3 := by omega
    rw [w2]
    omega
  have e8 : h8 (a + b) 0 (c + d) 0 (e + f) 0 g 0 = (a + b) + 256 * (c + d) + 65536 * (e + f) + 16777216 * g := by unfold h8; omega
  rw [e8, key (a + b) (c + d) (e + f) g (by omega) (by omega) (by omega) (by omega)]
  exact ⟨by omega, by omega⟩
theorem bcN_lt (x : Nat) : bcN x ≤ 63 := by
  unfold bcN
  exact Nat.and_le_right
/-- the library's count on a natural -/
theorem nI_and (a b : Nat) (ha : a < 2 ^ 31) (hb : b < 2 ^ 31) : nI a &&& nI b = nI (a &&& b) := by
  apply Int32.toBitVec_inj.mp
  rw [Int32.toBitVec_and]
  apply BitVec.eq_of_toNat_eq
  rw [BitVec.toNat_and, nI_tn, nI_tn, nI_tn, Nat.mod_eq_of_lt (by omega), Nat.mod_eq_of_lt (by omega), Nat.mod_eq_of_lt (Nat.lt_of_le_of_lt Nat.and_le_left (by omega))]
theorem nI_shr (a k s : Nat) (w : UInt32) (ha : a < 2 ^ 31) (hk : w.toNat % 32 = k) (hs : 2 ^ k = s) : ((nI a).toUInt32 >>> w).toInt32 = nI (a / s) := by
  apply Int32.toBitVec_inj.mp
  show ((nI a).toUInt32 >>> w).toBitVec = _
  apply BitVec.eq_of_toNat_eq
  show ((nI a).toUInt32 >>> w).toNat = _
  rw [UInt32.toNat_shiftRight, hk, Nat.shiftRight_eq_div_pow, hs, nI_tn]
  show (nI a).toBitVec.toNat / s = _
  rw [nI_tn, Nat.mod_eq_of_lt (by omega)]
  have : a / s ≤ a := Nat.div_le_self _ _
  rw [Nat.mod_eq_of_lt (by omega)]
theorem bc_nI {x : Nat} (hx : x < 2 ^ 28) : bcF (nI x) = nI (bcN x) := by
  have l1 : (x / 2 &&& 1431655765) ≤ x / 2 := Nat.and_le_left
  unfold bcF bcN
  simp only []
  rw [nI_shr x 1 2 _ (by omega) (by decide) rfl, nI_and _ _ (by omega) (by decide), pk_sub (by omega)]
  have l2 : x - (x / 2 &&& 1431655765) < 2 ^ 28 := by omega
  generalize x - (x / 2 &&& 1431655765) = a at *
  have l3 : (a &&& 858993459) ≤ a := Nat.and_le_left
  have l4 : (a / 4 &&& 858993459) ≤ a / 4 := Nat.and_le_left
  rw [nI_shr a 2 4 _ (by omega) (by decide) rfl, nI_and _ _ (by omega) (by decide), nI_and _ _ (by omega) (by decide), nI_add]
  generalize hb : (a &&& 858993459) + (a / 4 &&& 858993459) = b at *
  have l5 : b < 2 ^ 30 := by omega
  rw [nI_shr b 4 16 _ (by omega) (by decide) rfl, nI_add, nI_and _ _ (by omega) (by decide)]
  have l6 : ((b + b / 16) &&& 252645135) ≤ 252645135 := Nat.and_le_right
  generalize ((b + b / 16) &&& 252645135) = c at *
  rw [nI_shr c 8 256 _ (by omega) (by decide) rfl, nI_add]
  generalize hE : c + c / 256 = e at *
  rw [nI_shr e 16 65536 _ (by omega) (by decide) rfl, nI_add, nI_and _ _ (by omega) (by decide)]
/-- the days somebody is up, as a number -/
def ubF (σ : Sg) (p q : Nat) : Nat := if lvF σ p q ≤ 0 then 0 else 1
def uxF (σ : Sg) (p : Nat) : Nat → Nat
  | 0 => 0
  | k + 1 => uxF σ p k + 2 ^ k * ubF σ p k
def ucF (σ : Sg) (p : Nat) : Nat → Nat
  | 0 => 0
  | k + 1 => ucF σ p k + ubF σ p k
theorem ubF_lt (σ : Sg) (p q : Nat) : ubF σ p q < 2 := by
  unfold ubF
  split <;> omega
theorem uxF_lt (σ : Sg) (p : Nat) : ∀ k, uxF σ p k < 2 ^ k
  | 0 => Nat.one_pos
  | k + 1 => by
    have ih := uxF_lt σ p k
    have hb := ubF_lt σ p k
    simp only [uxF]
    rw [Nat.pow_succ]
    have : 2 ^ k * ubF σ p k ≤ 2 ^ k * 1 := Nat.mul_le_mul_left _ (by omega)
    omega
theorem sh1 : ∀ k, k < 28 → (nI 1) <<< ((nI k) &&& 31) = nI (2 ^ k) := by decide
theorem nI_or2 {u k : Nat} (hu : u < 2 ^ k) (hk : k < 28) : nI u ||| nI (2 ^ k) = nI (u + 2 ^ k) := by
  have h2 : 2 ^ k < 2 ^ 28 := Nat.pow_lt_pow_right (by decide) hk
  apply Int32.toBitVec_inj.mp
  rw [Int32.toBitVec_or]
  apply BitVec.eq_of_toNat_eq
  rw [BitVec.toNat_or, nI_tn, nI_tn, nI_tn, Nat.mod_eq_of_lt (by omega), Nat.mod_eq_of_lt (by omega), Nat.mod_eq_of_lt (by omega)]
  have := Nat.two_pow_add_eq_or_of_lt hu 1
  rw [Nat.mul_one] at this
  rw [Nat.or_comm, ← this, Nat.add_comm]
theorem udF_eq (σ : Sg) (p : Nat) : ∀ k, k ≤ 28 → udF σ p k = nI (uxF σ p k)
  | 0, _ => rfl
  | k + 1, hk => by
    have ih := udF_eq σ p k (by omega)
    simp only [udF, uxF, ubF]
    by_cases c : lvF σ p k ≤ 0
    · rw [if_pos c, if_pos c, Nat.mul_zero, Nat.add_zero]; exact ih
    · rw [if_neg c, if_neg c, Nat.mul_one, ih, sh1 k (by omega), nI_or2 (uxF_lt σ p k) (by omega)]
theorem bc_ud (σ : Sg) (p : Nat) : bcF (udF σ p 28) = nI (ucF σ p 28) ∧ ucF σ p 28 ≤ 28 := by
  rw [udF_eq σ p 28 (Nat.le_refl _), bc_nI (uxF_lt σ p 28)]
  have hb : ∀ q, ubF σ p q < 2 := ubF_lt σ p
  simp only [uxF, ucF]
  generalize ubF σ p = u at hb
  have h0 := hb 0
  have h1 := hb 1
  have h2 := hb 2
  have h3 := hb 3
  have h4 := hb 4
  have h5 := hb 5
  have h6 := hb 6
  have h7 := hb 7
  have h8' := hb 8
  have h9 := hb 9
  have h10 := hb 10
  have h11 := hb 11
  have h12 := hb 12
  have h13 := hb 13
  have h14 := hb 14
  have h15 := hb 15
  have h16 := hb 16
  have h17 := hb 17
  have h18 := hb 18
  have h19 := hb 19
  have h20 := hb 20
  have h21 := hb 21
  have h22 := hb 22
  have h23 := hb 23
  have h24 := hb 24
  have h25 := hb 25
  have h26 := hb 26
  have h27 := hb 27
  clear hb
  generalize u 0 = v0 at *
  generalize u 1 = v1 at *
  generalize u 2 = v2 at *
  generalize u 3 = v3 at *
  generalize u 4 = v4 at *
  generalize u 5 = v5 at *
  generalize u 6 = v6 at *
  generalize u 7 = v7 at *
  generalize u 8 = v8 at *
  generalize u 9 = v9 at *
  generalize u 10 = v10 at *
  generalize u 11 = v11 at *
  generalize u 12 = v12 at *
  generalize u 13 = v13 at *
  generalize u 14 = v14 at *
  generalize u 15 = v15 at *
  generalize u 16 = v16 at *
  generalize u 17 = v17 at *
  generalize u 18 = v18 at *
  generalize u 19 = v19 at *
  generalize u 20 = v20 at *
  generalize u 21 = v21 at *
  generalize u 22 = v22 at *
  generalize u 23 = v23 at *
  generalize u 24 = v24 at *
  generalize u 25 = v25 at *
  generalize u 26 = v26 at *
  generalize u 27 = v27 at *
  have e := bc_h8 (a := v0 + 2 * v1 + 4 * v2 + 8 * v3) (b := v4 + 2 * v5 + 4 * v6 + 8 * v7) (c := v8 + 2 * v9 + 4 * v10 + 8 * v11) (d := v12 + 2 * v13 + 4 * v14 + 8 * v15) (e := v16 + 2 * v17 + 4 * v18 + 8 * v19) (f := v20 + 2 * v21 + 4 * v22 + 8 * v23) (g := v24 + 2 * v25 + 4 * v26 + 8 * v27) (by omega) (by omega) (by omega) (by omega) (by omega) (by omega) (by omega)
  rw [dg4 v0 h0 v1 h1 v2 h2 v3 h3, dg4 v4 h4 v5 h5 v6 h6 v7 h7, dg4 v8 h8' v9 h9 v10 h10 v11 h11, dg4 v12 h12 v13 h13 v14 h14 v15 h15, dg4 v16 h16 v17 h17 v18 h18 v19 h19, dg4 v20 h20 v21 h21 v22 h22 v23 h23, dg4 v24 h24 v25 h25 v26 h26 v27 h27] at e
  unfold h8 at e
  refine ⟨?_, by omega⟩
  congr 1
  rw [show ∀ s t : Nat, s = t → bcN s = bcN t from fun s t h => by rw [h]]
  · exact (e.1.trans (by omega))
  · omega
/-- the largest number that divides both: reference divides again and again -/
def cdF (n : Nat) : Nat → Nat
  | 0 => 1
  | b + 1 => if b + 1 ≤ 1 then 1 else if 28 % (b + 1) = 0 ∧ n % (b + 1) = 0 then b + 1 else cdF n b
def rdF : Nat → Nat → Nat → Nat × Nat
  | 0, n, m => (n, m)
  | b + 1, n, m => if b + 1 ≤ 1 then (n, m) else if n % (b + 1) = 0 ∧ m % (b + 1) = 0 then rdF b (n / (b + 1)) (m / (b + 1)) else rdF b n m
theorem cdF_s (n b : Nat) : cdF n (b + 1) = if b + 1 ≤ 1 then 1 else if 28 % (b + 1) = 0 ∧ n % (b + 1) = 0 then b + 1 else cdF n b := rfl
theorem rdF_s (b n m : Nat) : rdF (b + 1) n m = if b + 1 ≤ 1 then (n, m) else if n % (b + 1) = 0 ∧ m % (b + 1) = 0 then rdF b (n / (b + 1)) (m / (b + 1)) else rdF b n m := rfl
theorem cd_rd : ∀ n, n ≤ 28 → 0 < cdF n 28 ∧ (rdF 28 n 28).1 = n / cdF n 28 ∧ (rdF 28 n 28).2 = 28 / cdF n 28 := by decide
section P46
variable {E E' : KE} {S : Shp} {d d' : Nat} {x1 x2 x3 : Int32} {σ τ : Sg} {Z : Int32 → Int32 → Sg → Sg → Prop} {K : Int32 → Sg → Prop} {L : Sg → Prop}
theorem T_commonDivisor {n : Nat} (hn : n ≤ 28) (h : K (nI (cdF n 28)) σ) : CallI E S d mX7_commonDivisor [.int (nI n)] σ K := by
  refine vc_Thoughts_commonDivisor ?_
  have loop : ∀ b, b ≤ 28 → cdF n b = cdF n 28 → WP E S mX7_commonDivisor d 3 [some (.int (nI n)), some (.int (nI b))] [] σ (k_qi K) := by
    intro b
    induction b with
    | zero =>
      intro _ e
      apply vb_Thoughts_commonDivisor_3
      refine ⟨fun _ => ?_, fun z => absurd (by decide) z⟩
      have e : cdF n 28 = 1 := by rw [← e]; rfl
      rw [e] at h; exact h
    | succ b ih =>
      intro hb e
      apply vb_Thoughts_commonDivisor_3
      rw [nI_leI (by omega) (by omega)]
      rw [cdF_s n b] at e
      have nz : ¬ nI (b + 1) = 0 := by rw [k_n0eq (by omega)]; omega
      have r1 : 28 % (b + 1) < b + 1 := Nat.mod_lt _ (by omega)
      have r2 : n % (b + 1) < b + 1 := Nat.mod_lt _ (by omega)
      refine ⟨fun z => ?_, fun z => ?_⟩
      · rw [if_pos (by omega)] at e
        rw [← e] at h; exact h
      · rw [if_neg z] at e
        simp (disch := omega) only [nI_clamp, nI_add, pk_mul, pk_sub, ↓pk_rem, pk_div, k_mod, k_m1, nI_ltI, nI_leI, nI_eq, k_n0lt, k_nle0, k_0ltn, k_0len, k_n0eq, k_vin, Nat.reduceAdd, Nat.reduceMul, Nat.reduceLT, Nat.reduceLeDiff, Nat.reduceSub, Nat.reduceEqDiff, Nat.zero_add, Nat.add_zero, Nat.add_sub_cancel]
        refine ⟨by first | exact nz | exact fun z => z | omega, fun c => ?_, fun c => ⟨by first | exact nz | exact fun z => z | omega, fun c2 => ?_, fun c2 => ?_⟩⟩
        · rw [if_neg (fun w => c w.1)] at e
          exact ih (by omega) e
        · rw [if_neg (fun w => c2 w.2)] at e
          exact ih (by omega) e
        · rw [if_pos ⟨c, c2⟩] at e
          rw [← e] at h; exact h
  exact loop 28 (Nat.le_refl _) rfl
theorem P_odds (hR : RR σ τ) (h : ∀ v σ' τ', RR σ' τ' → Z v v σ' τ') : CallI E shC (d + 4) mX10_odds [.ref 0, .int x1, .int x2] σ (fun v σ' => CallI E' shR (d' + 4) mX11_odds [.ref 0, .int x1, .int x2] τ (fun w τ' => Z v w σ' τ')) := by
  have hA := hR.rw.a
  have hRA := hR.rw.ra
  have hn := nP_le hA
  refine vc_SD_odds (T_knows hA (k_if (fun q => T_err (by decide) ?_) (fun q => T_isWithin (k_ifn (fun q2 => ?_) (fun q2 => T_err (by decide) ?_)))))
  · exact vc_Md_odds (T_isPerson hA hRA (k_ifF q (T_Merr1 (h _ _ _ (hR.err (by decide))))))
  rotate_left
  · exact vc_Md_odds (T_isPerson hA hRA (k_ifT q (T_in (k_ifnF q2 (T_Merr1 (h _ _ _ (hR.err (by decide))))))))
  obtain ⟨p, hp, rfl⟩ := id q
  obtain ⟨bc, hc⟩ := bc_ud σ p
  obtain ⟨g0, g1, g2⟩ := cd_rd (ucF σ p 28) hc
  have glt : cdF (ucF σ p 28) 28 ≤ 28 := by
    have : ∀ n, n ≤ 28 → cdF n 28 ≤ 28 := by decide
    exact this _ hc
  have ref : ∀ v, v = (if x2 = 0 then nI (ucF σ p 28 / cdF (ucF σ p 28) 28) else nI (28 / cdF (ucF σ p 28) 28)) → CallI E' shR (d' + 4) mX11_odds [.ref 0, .int (nI p), .int x2] τ (fun w τ' => Z v w σ τ') := by
    intro v hv
    refine vc_Md_odds (T_isPerson hA hRA (k_ifT q (T_in (k_ifnT q2 ?_))))
    have second : ∀ b, b ≤ 28 → ∀ n m, n ≤ 28 → m ≤ 28 → rdF b n m = rdF 28 (ucF σ p 28) 28 → WP E' shR mX11_odds (d' + 3 + 1) 68 [none, none, some (.int x2), some (.int (nI n)), some (.int (nI m)), some (.int (nI b))] [] τ (k_qi fun w τ' => Z v w σ τ') := by
      intro b
      induction b with
      | zero =>
        intro _ n m hn hm e
        have e : (n, m) = rdF 28 (ucF σ p 28) 28 := e
        rw [← e] at g1 g2
        apply vb_Md_odds_68
        refine ⟨fun _ => ⟨fun c => ?_, fun c => ?_⟩, fun z => absurd (by decide) z⟩
        · rw [if_neg c, ← g2] at hv
          rw [hv]; exact h _ _ _ hR
        · rw [if_pos c, ← g1] at hv
          rw [hv]; exact h _ _ _ hR
      | succ b ih =>
        intro hb n m hn hm e
        rw [rdF_s b n m] at e
        have nz : ¬ nI (b + 1) = 0 := by rw [k_n0eq (by omega)]; omega
        have r1 : n % (b + 1) < b + 1 := Nat.mod_lt _ (by omega)
        have r2 : m % (b + 1) < b + 1 := Nat.mod_lt _ (by omega)
        apply vb_Md_odds_68
        rw [nI_leI (by omega) (by omega)]
        refine ⟨fun z => ?_, fun z => ?_⟩
        · rw [if_pos (by omega)] at e
          rw [← e] at g1 g2
          refine ⟨fun c => ?_, fun c => ?_⟩
          · rw [if_neg c, ← g2] at hv
            rw [hv]; exact h _ _ _ hR
          · rw [if_pos c, ← g1] at hv
            rw [hv]; exact h _ _ _ hR
        · rw [if_neg z] at e
          have d1 : n / (b + 1) ≤ n := Nat.div_le_self _ _
          have d2 : m / (b + 1) ≤ m := Nat.div_le_self _ _
          have m1 := Nat.div_mul_le_self n (b + 1)
          have m2 := Nat.div_mul_le_self m (b + 1)
          simp (disch := omega) only [nI_clamp, nI_add, pk_mul, pk_sub, ↓pk_rem, pk_div, k_mod, k_m1, nI_ltI, nI_leI, nI_eq, k_n0lt, k_nle0, k_0ltn, k_0len, k_n0eq, k_vin, Nat.reduceAdd, Nat.reduceMul, Nat.reduceLT, Nat.reduceLeDiff, Nat.reduceSub, Nat.reduceEqDiff, Nat.zero_add, Nat.add_zero, Nat.add_sub_cancel]
          refine ⟨by first | exact nz | exact fun z => z | omega, fun c => ?_, fun c => ⟨by first | exact nz | exact fun z => z | omega, fun c2 => ?_, fun c2 => ⟨by first | exact nz | exact fun z => z | omega, by first | exact nz | exact fun z => z | omega, ?_⟩⟩⟩
          · rw [if_neg (fun w => c w.1)] at e
            exact ih (by omega) _ _ hn hm e
          · rw [if_neg (fun w => c2 w.2)] at e
            exact ih (by omega) _ _ hn hm e
          · rw [if_pos ⟨c, c2⟩] at e
            exact ih (by omega) _ _ (by omega) (by omega) e
    have first : ∀ r k, k + r = 28 → WP E' shR mX11_odds (d' + 3 + 1) 29 [some (.ref 0), some (.int (nI p)), some (.int x2), some (.int (nI (ucF σ p k))), some (.int (nI k)), none] [] τ (k_qi fun w τ' => Z v w σ τ') := by
      intro r
      induction r with
      | zero =>
        intro k hk
        have e : k = 28 := by omega
        subst e
        apply vb_Md_odds_29
        exact ⟨fun _ => second 28 (Nat.le_refl _) _ _ hc (Nat.le_refl _) rfl, fun z => absurd (Int32.le_refl _) z⟩
      | succ r ih =>
        intro k hk
        have ih := ih (k + 1) (by omega)
        simp only [ucF, ubF] at ih
        apply vb_Md_odds_29
        rw [nI_leI (by omega) (by omega)]
        refine ⟨fun z => absurd z (by omega), fun _ => T_MisUp hRA (by omega) (by omega) (k_if (fun c => ?_) (fun c => ?_))⟩
        · rw [if_pos (by rw [k_lti] at c; rw [k_lei]; omega)] at ih
          rw [nI_add, nI_add]
          exact ih
        · rw [if_neg (by rw [k_lti] at c; rw [k_lei]; omega)] at ih
          rw [nI_add, nI_add]
          exact ih
    exact first 28 0 rfl
  refine T_upDays (by omega) (T_bitCount ?_)
  rw [bc]
  have gd : ∀ a, a ≤ 28 → nI a / nI (cdF (ucF σ p 28) 28) = nI (a / cdF (ucF σ p 28) 28) := fun a ha => by rw [pk_div] <;> omega
  refine ⟨fun c => T_commonDivisor hc ⟨?_, ?_⟩, fun c => T_commonDivisor hc ⟨?_, ?_⟩⟩
  · intro z; rw [k_n0eq (by omega)] at z; omega
  · rw [gd 28 (Nat.le_refl _)]
    exact ref _ (by rw [if_neg c])
  · intro z; rw [k_n0eq (by omega)] at z; omega
  · rw [gd _ hc]
    exact ref _ (by rw [if_pos c])
end P46

/-! small rows: naturals as ints, answers of tests, states -/
theorem k_n0lt {n : Nat} (h : n < 2 ^ 31) : (nI n < 0) = False := by
  rw [Int32.lt_iff_toInt_lt, nI_toInt h]; simp
theorem k_nle0 {n : Nat} (h : n < 2 ^ 31) : (nI n ≤ 0) = (n = 0) := by
  rw [Int32.le_iff_toInt_le, nI_toInt h]; simp
theorem k_0ltn {n : Nat} (h : n < 2 ^ 31) : ((0 : Int32) < nI n) = (0 < n) := by
  rw [Int32.lt_iff_toInt_lt, nI_toInt h]; simp
theorem k_0len {n : Nat} (h : n < 2 ^ 31) : ((0 : Int32) ≤ nI n) = True := by
  rw [Int32.le_iff_toInt_le, nI_toInt h]; simp
theorem k_n0eq {n : Nat} (h : n < 2 ^ 31) : (nI n = 0) = (n = 0) := by
  have := nI_eq (a := n) (b := 0) h (by decide)
  rw [show (0 : Int32) = nI 0 from rfl, this]
theorem k_m1 {n : Nat} (h : 1 ≤ n) : nI n + (-1) = nI (n - 1) := by
  obtain ⟨m, rfl⟩ : ∃ m, n = m + 1 := ⟨n - 1, by omega⟩
  rw [pk_m1]; rfl
theorem k_vin {n N : Nat} (h : n < N) (hN : N < 2 ^ 31) : vp_in (nI n) N = True := eq_true (vp_in_nI h hN)
theorem k_0 : (0 : Int32) = nI 0 := rfl
theorem k_1 : (1 : Int32) = nI 1 := rfl
/-- an int that is a natural below n -/
def k_lt (x : Int32) (n : Nat) : Prop := ∃ j : Nat, j < n ∧ x = nI j
theorem k_lt_iff {x : Int32} {n : Nat} (hn : n ≤ 2 ^ 31) : k_lt x n ↔ 0 ≤ x.toInt ∧ x.toInt < n := by
  constructor
  · rintro ⟨j, h1, rfl⟩
    rw [nI_toInt (by omega)]; omega
  · rintro ⟨h1, h2⟩
    refine ⟨x.toInt.toNat, by omega, ?_⟩
    apply Int32.toInt_inj.mp
    rw [nI_toInt (by omega)]; omega
theorem k_lt_nI {n N : Nat} (hn : n < 2 ^ 31) (hN : N ≤ 2 ^ 31) : k_lt (nI n) N ↔ n < N := by
  rw [k_lt_iff hN, nI_toInt hn]; omega
/-- the answer of a test -/
noncomputable def k_b (P : Prop) : Int32 := @ite Int32 P (Classical.propDecidable P) (nI 1) (nI 0)
theorem k_bT {P : Prop} (h : P) : k_b P = nI 1 := by unfold k_b; rw [if_pos h]
theorem k_bF {P : Prop} (h : ¬ P) : k_b P = nI 0 := by unfold k_b; rw [if_neg h]
theorem k_bz {P : Prop} : k_b P = 0 ↔ ¬ P := by
  by_cases h : P
  · rw [k_bT h]; simp only [h, not_true, iff_false]; decide
  · rw [k_bF h]; simp only [h, not_false_iff, iff_true]; rfl
theorem k_b01 {P : Prop} : k_b P = 0 ∨ k_b P = 1 := by
  by_cases h : P
  · rw [k_bT h]; exact Or.inr rfl
  · rw [k_bF h]; exact Or.inl rfl
theorem k_bc {P Q : Prop} (h : P ↔ Q) : k_b P = k_b Q := by rw [propext h]
/-- what stands behind a test: the test's two ways -/
theorem k_if {P A B : Prop} (hf : ¬ P → A) (ht : P → B) : (k_b P = 0 → A) ∧ (¬ k_b P = 0 → B) := ⟨fun h => hf (k_bz.mp h), fun h => ht (Classical.not_not.mp (fun q => h (k_bz.mpr q)))⟩
theorem k_ifn {P A B : Prop} (ht : P → B) (hf : ¬ P → A) : (¬ k_b P = 0 → B) ∧ (k_b P = 0 → A) := ⟨fun h => ht (Classical.not_not.mp (fun q => h (k_bz.mpr q))), fun h => hf (k_bz.mp h)⟩
/-- a test that leads to 1 or 0 -/
theorem k_tf {P : Prop} {K : Int32 → Prop} (h : K (k_b P)) : (P → K (nI 1)) ∧ (¬ P → K (nI 0)) := ⟨fun p => by rw [k_bT p] at h; exact h, fun p => by rw [k_bF p] at h; exact h⟩
theorem k_put_at {σ : Sg} {i : Nat} {r : Nat → Int32} : k_put σ i r i = r := if_pos rfl
theorem k_put_ne {σ : Sg} {i j : Nat} {r : Nat → Int32} (h : j ≠ i) : k_put σ i r j = σ j := if_neg h
theorem k_put_put {σ : Sg} {i : Nat} {r s : Nat → Int32} : k_put (k_put σ i r) i s = k_put σ i s := by
  funext j; unfold k_put; by_cases h : j = i <;> simp [h]
theorem upd_at {f : Nat → Int32} {k : Nat} {x : Int32} : upd f k x k = x := if_pos rfl
theorem upd_ne {f : Nat → Int32} {k j : Nat} {x : Int32} (h : j ≠ k) : upd f k x j = f j := if_neg h
theorem k_lti {x y : Int32} : x < y ↔ x.toInt < y.toInt := Int32.lt_iff_toInt_lt
theorem k_lei {x y : Int32} : x ≤ y ↔ x.toInt ≤ y.toInt := Int32.le_iff_toInt_le
theorem k_eqi {x y : Int32} : x = y ↔ x.toInt = y.toInt := Int32.toInt_inj.symm
/-! tests over ints -/
theorem T_isWithin {E : KE} {S : Shp} {d : Nat} {x a b : Int32} {σ : Sg} {K : Int32 → Sg → Prop} (h : K (k_b (a.toInt ≤ x.toInt ∧ x.toInt ≤ b.toInt)) σ) : CallI E S d mX10_isWithin [.int x, .int a, .int b] σ K := by
  refine vc_SD_isWithin ⟨fun q => ?_, fun q => ⟨fun q2 => ?_, fun q2 => ?_⟩⟩
  · rw [k_bF (by rw [k_lti] at q; omega)] at h; exact h
  · rw [k_bF (by rw [k_lti] at q2; omega)] at h; exact h
  · rw [k_bT (by rw [k_lti] at q q2; omega)] at h; exact h
theorem T_in {E : KE} {S : Shp} {d : Nat} {x a b : Int32} {σ : Sg} {K : Int32 → Sg → Prop} (h : K (k_b (a.toInt ≤ x.toInt ∧ x.toInt ≤ b.toInt)) σ) : CallI E S d mX11_in [.int x, .int a, .int b] σ K := by
  refine vc_Md_in ⟨fun q => ?_, fun q => ⟨fun q2 => ?_, fun q2 => ?_⟩⟩
  · rw [k_bF (by rw [k_lti] at q; omega)] at h; exact h
  · rw [k_bF (by rw [k_lti] at q2; omega)] at h; exact h
  · rw [k_bT (by rw [k_lti] at q q2; omega)] at h; exact h
theorem k_wi {x : Int32} {a b : Nat} (ha : a < 2 ^ 31) (hb : b < 2 ^ 31) : ((nI a).toInt ≤ x.toInt ∧ x.toInt ≤ (nI b).toInt) ↔ ∃ j : Nat, a ≤ j ∧ j ≤ b ∧ x = nI j := by
  rw [nI_toInt ha, nI_toInt hb]
  constructor
  · rintro ⟨h1, h2⟩
    obtain ⟨j, h3, rfl⟩ := (k_lt_iff (x := x) (n := b + 1) (by omega)).mpr ⟨by omega, by omega⟩
    rw [nI_toInt (by omega)] at h1
    exact ⟨j, by omega, by omega, rfl⟩
  · rintro ⟨j, h1, h2, rfl⟩
    rw [nI_toInt (by omega)]; omega
theorem k_w0 {x : Int32} {b : Nat} (hb : b < 2 ^ 31) : ((nI 0).toInt ≤ x.toInt ∧ x.toInt ≤ (nI b).toInt) ↔ k_lt x (b + 1) := by
  rw [k_wi (by decide) hb]
  exact ⟨fun ⟨j, _, h2, h3⟩ => ⟨j, by omega, h3⟩, fun ⟨j, h2, h3⟩ => ⟨j, by omega, by omega, h3⟩⟩
theorem T_isDay {E : KE} {S : Shp} {d : Nat} {x : Int32} {σ : Sg} {K : Int32 → Sg → Prop} (h : K (k_b (k_lt x 28)) σ) : CallI E S d mX10_isDay [.int x] σ K := by
  have e : k_lt x 28 ↔ ¬ x < 0 ∧ ¬ nI 28 ≤ x := by
    rw [k_lt_iff (by decide), k_lti, k_lei, nI_toInt (by decide)]; simp only [Int32.toInt_zero]; omega
  refine vc_SD_isDay ⟨fun q => ?_, fun q => ⟨fun q2 => ?_, fun q2 => ?_⟩⟩
  · rw [k_bF (by rw [e]; exact fun z => z.1 q)] at h; exact h
  · rw [k_bF (by rw [e]; exact fun z => z.2 q2)] at h; exact h
  · rw [k_bT (by rw [e]; exact ⟨q, q2⟩)] at h; exact h
theorem T_MisDay {E : KE} {S : Shp} {d : Nat} {x : Int32} {σ : Sg} {K : Int32 → Sg → Prop} (h : K (k_b (k_lt x 28)) σ) : CallI E S (d + 1) mX11_isDay [.int x] σ K := by
  refine vc_Md_isDay (T_in ?_)
  rw [k_bc (k_w0 (by decide))]
  exact ⟨k_b01, h⟩
/-- a run's end may say less -/
theorem WP.mono {E : KE} {S : Shp} {M : KM} {d pc : Nat} {Lo : List (Option Value)} {st : List Value} {σ : Sg} {Q1 Q2 : Option Value → Sg → Prop} (h : WP E S M d pc Lo st σ Q1) (hq : ∀ v σ', Q1 v σ' → Q2 v σ') : WP E S M d pc Lo st σ Q2 := by
  intro p e s m args below meth c H locs ls F hP hS hl T hT X
  obtain ⟨t, a1, o, b1, b2, ⟨⟨v, σ', g1, g2, g3⟩, g4⟩, b3⟩ := h p e s m args below meth c H locs ls F hP hS hl T hT X
  exact ⟨t, a1, o, b1, b2, ⟨⟨v, σ', g1, hq _ _ g2, g3⟩, g4⟩, b3⟩
theorem WP.monoI {E : KE} {S : Shp} {M : KM} {d pc : Nat} {Lo : List (Option Value)} {st : List Value} {σ : Sg} {K1 K2 : Int32 → Sg → Prop} (h : WP E S M d pc Lo st σ (k_qi K1)) (hq : ∀ v σ', K1 v σ' → K2 v σ') : WP E S M d pc Lo st σ (k_qi K2) := WP.mono h fun _ _ ⟨y, e, k⟩ => ⟨y, e, hq _ _ k⟩

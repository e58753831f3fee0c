/-! promise 24: keepers -/
/-- Integer.bitCount, as the library works it -/
def bcF (x0 : Int32) : Int32 :=
  let a := x0 - (((x0.toUInt32 >>> ((nI 1).toUInt32 &&& Int32.toUInt32 31)).toInt32) &&& (nI 1431655765))
  let b := (a &&& (nI 858993459)) + (((a.toUInt32 >>> ((nI 2).toUInt32 &&& Int32.toUInt32 31)).toInt32) &&& (nI 858993459))
  let c := (b + ((b.toUInt32 >>> ((nI 4).toUInt32 &&& Int32.toUInt32 31)).toInt32)) &&& (nI 252645135)
  let e := c + ((c.toUInt32 >>> ((nI 8).toUInt32 &&& Int32.toUInt32 31)).toInt32)
  (e + ((e.toUInt32 >>> ((nI 16).toUInt32 &&& Int32.toUInt32 31)).toInt32)) &&& (nI 63)
/-- how many bits, one by one -/
def pcN (x : Int32) : Nat → Nat
  | 0 => 0
  | k + 1 => pcN x k + (if bt x k then 1 else 0)
theorem bc_64 : ∀ s, s < 64 → bcF (nI s) = nI (pcN (nI s) 6) := by decide
theorem lo_64 : ∀ s, s < 64 → ¬ nI s = 0 → (nI s &&& (nI s - nI 1)) = nI (s &&& (s - 1)) ∧ pcN (nI (s &&& (s - 1))) 6 + 1 = pcN (nI s) 6 := by decide
section P45
variable {E E' : KE} {S : Shp} {d d' : Nat} {x1 x2 x3 : Int32} {σ τ : Sg} {Z : Int32 → Int32 → Sg → Sg → Prop} {K : Int32 → Sg → Prop} {L : Sg → Prop}
theorem T_bitCount {x : Int32} (h : K (bcF x) σ) : CallI E S d mJ6_bitCount_0f7a4 [.int x] σ K := vc_JI_bitCount h
theorem T_bits {s : Nat} (hs : s < 64) (h : K (nI (pcN (nI s) 6)) σ) : CallI E S d mX11_bits [.int (nI s)] σ K := by
  refine vc_Md_bits ?_
  have loop : ∀ n t k, t ≤ n → t < 64 → k + pcN (nI t) 6 = pcN (nI s) 6 → WP E S mX11_bits d 4 [none, some (.int (nI k)), some (.int (nI t))] [] σ (k_qi K) := by
    intro n
    induction n with
    | zero =>
      intro t k ht ht2 e
      have : t = 0 := by omega
      subst this
      apply vb_Md_bits_4
      refine ⟨fun _ => ?_, fun z => absurd rfl z⟩
      have e : k = pcN (nI s) 6 := by rw [← e]; rfl
      rw [e]; exact h
    | succ n ih =>
      intro t k ht ht2 e
      apply vb_Md_bits_4
      refine ⟨fun z => ?_, fun z => ?_⟩
      · simp (disch := omega) only [nI_clamp, nI_add, pk_mul, pk_sub, ↓pk_rem, pk_div, k_mod, k_m1, nI_ltI, nI_leI, nI_eq, k_n0lt, k_nle0, k_0ltn, k_0len, k_n0eq, k_vin, Nat.reduceAdd, Nat.reduceMul, Nat.reduceLT, Nat.reduceLeDiff, Nat.reduceSub, Nat.reduceEqDiff, Nat.zero_add, Nat.add_zero] at z
        subst z
        have e : k = pcN (nI s) 6 := by rw [← e]; rfl
        rw [e]; exact h
      · have w := lo_64 t ht2 z
        have hz : t ≠ 0 := by intro q; subst q; exact z rfl
        have hl : t &&& (t - 1) ≤ t - 1 := Nat.and_le_right
        rw [w.1, nI_add]
        exact ih _ _ (by omega) (by omega) (by omega)
  exact loop s s 0 (Nat.le_refl _) hs (by omega)
end P45

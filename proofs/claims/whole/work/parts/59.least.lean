/-! promises 25, 26: the least day of a set -/
/-- less by harm, then by price -/
def ltK (hk pk : Nat → Nat) (a b : Nat) : Prop := hk a < hk b ∨ (hk a = hk b ∧ pk a < pk b)
noncomputable def lsF (hk pk : Nat → Nat) (v : Int32) : Nat → Nat
  | 0 => 28
  | k + 1 => if bt v k = true then @ite Nat (lsF hk pk v k = 28 ∨ ltK hk pk k (lsF hk pk v k)) (Classical.propDecidable _) k (lsF hk pk v k) else lsF hk pk v k
theorem lsF_ok {hk pk : Nat → Nat} {v : Int32} : ∀ k, k ≤ 28 → (lsF hk pk v k = 28 ∧ (∀ j, j < k → ¬ bt v j = true)) ∨ (lsF hk pk v k < k ∧ bt v (lsF hk pk v k) = true ∧ (∀ j, j < k → bt v j = true → ¬ ltK hk pk j (lsF hk pk v k)) ∧ (∀ j, j < lsF hk pk v k → bt v j = true → ltK hk pk (lsF hk pk v k) j))
  | 0, _ => Or.inl ⟨rfl, fun j hj => absurd hj (Nat.not_lt_zero j)⟩
  | k + 1, h => by
    have ih := lsF_ok (hk := hk) (pk := pk) (v := v) k (by omega)
    simp only [lsF]
    generalize lsF hk pk v k = b at ih
    by_cases c : bt v k = true
    · rw [if_pos c]
      by_cases c2 : b = 28 ∨ ltK hk pk k b
      · rw [if_pos c2]
        refine Or.inr ⟨by omega, c, fun j hj hb => ?_, fun j hj hb => ?_⟩
        · rcases ih with ⟨i1, i2⟩ | ⟨i1, i2, i3, i4⟩
          · by_cases e : j = k
            · subst e; unfold ltK; omega
            · exact absurd hb (i2 j (by omega))
          · by_cases e : j = k
            · subst e; unfold ltK; omega
            · have := i3 j (by omega) hb
              have l : ltK hk pk k b := by
                rcases c2 with c2 | c2
                · omega
                · exact c2
              unfold ltK at *
              omega
        · rcases ih with ⟨i1, i2⟩ | ⟨i1, i2, i3, i4⟩
          · exact absurd hb (i2 j (by omega))
          · have := i3 j (by omega) hb
            have l : ltK hk pk k b := by
              rcases c2 with c2 | c2
              · omega
              · exact c2
            unfold ltK at *
            omega
      · rw [if_neg c2]
        have n28 : b ≠ 28 := fun e => c2 (Or.inl e)
        have nl : ¬ ltK hk pk k b := fun e => c2 (Or.inr e)
        rcases ih with ⟨i1, i2⟩ | ⟨i1, i2, i3, i4⟩
        · exact absurd i1 n28
        · refine Or.inr ⟨by omega, i2, fun j hj hb => ?_, i4⟩
          by_cases e : j = k
          · subst e; exact nl
          · exact i3 j (by omega) hb
    · rw [if_neg c]
      rcases ih with ⟨i1, i2⟩ | ⟨i1, i2, i3, i4⟩
      · refine Or.inl ⟨i1, fun j hj => ?_⟩
        by_cases e : j = k
        · subst e; exact c
        · exact i2 j (by omega)
      · refine Or.inr ⟨by omega, i2, fun j hj hb => ?_, i4⟩
        by_cases e : j = k
        · subst e; exact absurd hb c
        · exact i3 j (by omega) hb
section P59
variable {E E' : KE} {S : Shp} {d d' : Nat} {x1 x2 x3 : Int32} {σ τ : Sg} {Z : Int32 → Int32 → Sg → Sg → Prop} {K : Int32 → Sg → Prop} {L : Sg → Prop}
/-- the two rows of thoughts hold naturals -/
def TH (hk pk : Nat → Nat) (σ : Sg) : Prop := ∀ j, j < 28 → (σ 55 j = nI (hk j) ∧ hk j < 100) ∧ (σ 54 j = nI (pk j) ∧ pk j < 1000)
theorem T_isLess {hk pk : Nat → Nat} {a b : Nat} (hT : TH hk pk σ) (ha : a < 28) (hb : b < 28) (h : K (k_b (ltK hk pk a b)) σ) : CallI E shC d mX7_isLess [.ref 52, .int (nI a), .int (nI b)] σ K := by
  obtain ⟨⟨a1, a2⟩, ⟨a3, a4⟩⟩ := hT a ha
  obtain ⟨⟨b1, b2⟩, ⟨b3, b4⟩⟩ := hT b hb
  have va := vp_in_nI (n := a) ha (by decide)
  have vb := vp_in_nI (n := b) hb (by decide)
  refine vc_Thoughts_isLess ?_
  rw [show (nI a).toNatClampNeg = a from nI_clamp (by omega), show (nI b).toNatClampNeg = b from nI_clamp (by omega), a1, a3, b1, b3, nI_eq (by omega) (by omega), nI_leI (by omega) (by omega), nI_leI (by omega) (by omega)]
  refine ⟨va, vb, fun c => ⟨va, vb, fun c2 => ?_, fun c2 => ?_⟩, fun c => ⟨va, vb, fun c2 => ?_, fun c2 => ?_⟩⟩
  · rw [k_bF (by unfold ltK; omega)] at h; exact h
  · rw [k_bT (by unfold ltK; omega)] at h; exact h
  · rw [k_bF (by unfold ltK; omega)] at h; exact h
  · rw [k_bT (by unfold ltK; omega)] at h; exact h
theorem T_leastOf {hk pk : Nat → Nat} {v : Int32} (hT : TH hk pk σ) (h1 : lsF hk pk v 28 = 28 → K (-1 : Int32) σ) (h2 : lsF hk pk v 28 < 28 → K (nI (lsF hk pk v 28)) σ) : CallI E shC (d + 1) mX7_leastOf [.ref 52, .int v] σ K := by
  refine vc_Thoughts_leastOf ?_
  have loop : ∀ r k, k + r = 28 → WP E shC mX7_leastOf (d + 1) 4 [some (.ref 52), some (.int v), some (.int (if lsF hk pk v k = 28 then (-1 : Int32) else nI (lsF hk pk v k))), some (.int (nI k))] [] σ (k_qi K) := by
    intro r
    induction r with
    | zero =>
      intro k hk'
      have e : k = 28 := by omega
      subst e
      apply vb_Thoughts_leastOf_4
      refine ⟨fun _ => ?_, fun z => absurd (Int32.le_refl _) z⟩
      have ok := lsF_ok (hk := hk) (pk := pk) (v := v) 28 (Nat.le_refl _)
      by_cases c : lsF hk pk v 28 = 28
      · rw [if_pos c]; exact h1 c
      · rw [if_neg c]
        rcases ok with ⟨i1, -⟩ | ⟨i1, -⟩
        · exact absurd i1 c
        · exact h2 i1
    | succ r ih =>
      intro k hk'
      have ih := ih (k + 1) (by omega)
      have ok := lsF_ok (hk := hk) (pk := pk) (v := v) k (by omega)
      apply vb_Thoughts_leastOf_4
      rw [nI_leI (by omega) (by omega), nI_add, bt_test (by omega)]
      refine ⟨fun z => absurd z (by omega), fun _ => ⟨fun c => ?_, fun c => ?_⟩⟩
      · have e : lsF hk pk v (k + 1) = lsF hk pk v k := by simp only [lsF]; rw [if_neg c]
        rw [e] at ih
        exact ih
      · by_cases b28 : lsF hk pk v k = 28
        · have e : lsF hk pk v (k + 1) = k := by simp only [lsF]; rw [if_pos c, if_pos (Or.inl b28)]
          rw [e, if_neg (show ¬ k = 28 by omega)] at ih
          rw [if_pos b28]
          exact ⟨fun _ => ih, fun z => absurd rfl z⟩
        · rw [if_neg b28]
          have hb : lsF hk pk v k < 28 := by
            rcases ok with ⟨i1, -⟩ | ⟨i1, -⟩
            · exact absurd i1 b28
            · omega
          refine ⟨fun z => absurd z (ne_m1 (by omega)), fun _ => T_isLess hT (by omega) hb (k_if (fun c2 => ?_) (fun c2 => ?_))⟩
          · have e : lsF hk pk v (k + 1) = lsF hk pk v k := by
              simp only [lsF]
              rw [if_pos c, if_neg (fun z => z.elim b28 c2)]
            rw [e, if_neg b28] at ih
            exact ih
          · have e : lsF hk pk v (k + 1) = k := by simp only [lsF]; rw [if_pos c, if_pos (Or.inr c2)]
            rw [e, if_neg (show ¬ k = 28 by omega)] at ih
            exact ih
  exact loop 28 0 rfl
end P59

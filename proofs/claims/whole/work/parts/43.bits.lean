/-! promises 23, 36, 37: judge, fits, meet -/
def bt (v : Int32) (k : Nat) : Bool := v.toBitVec.getLsbD k
theorem sh_amt {k : Nat} (hk : k < 32) : (((nI k) &&& 31).toBitVec.smod 32).toNat = k := by
  revert k; decide
theorem bt_or {v : Int32} {k j : Nat} (hk : k < 32) (hj : j < 32) : bt (v ||| ((nI 1) <<< ((nI k) &&& 31))) j = (bt v j || decide (j = k)) := by
  unfold bt
  rw [Int32.toBitVec_or, BitVec.getLsbD_or]
  congr 1
  rw [Int32.toBitVec_shiftLeft, BitVec.shiftLeft_eq', BitVec.getLsbD_shiftLeft]
  have e : BitVec.toNat (((nI k) &&& 31).toBitVec.smod 32) = k := sh_amt hk
  rw [e]
  have b1 : ∀ i, i < 32 → (nI 1).toBitVec.getLsbD i = decide (i = 0) := by decide
  by_cases h : j < k
  · simp [h, show j ≠ k by omega]
  · rw [b1 (j - k) (by omega)]
    simp [h, hj]
    omega
theorem bt_test {v : Int32} {k : Nat} (hk : k < 31) : ((v >>> ((nI k) &&& 31)) &&& (nI 1)) = nI 1 ↔ bt v k = true := by
  have b1 : ∀ i, i < 32 → (nI 1).toBitVec.getLsbD i = decide (i = 0) := by decide
  have e : BitVec.toNat (((nI k) &&& 31).toBitVec.smod 32) = k := sh_amt (by omega)
  have key : ∀ j, j < 32 → ((v >>> ((nI k) &&& 31)) &&& (nI 1)).toBitVec.getLsbD j = (decide (j = 0) && bt v k) := by
    intro j hj
    rw [Int32.toBitVec_and, BitVec.getLsbD_and, b1 j hj, Int32.toBitVec_shiftRight, BitVec.getLsbD_sshiftRight', e]
    by_cases h : j = 0
    · subst h
      simp [show k < 32 by omega, bt]
    · simp [h]
  constructor
  · intro h
    have z := key 0 (by decide)
    rw [h] at z
    have z1 : (nI 1).toBitVec.getLsbD 0 = true := by decide
    rw [z1] at z
    simpa using z.symm
  · intro h
    apply Int32.toBitVec_inj.mp
    apply BitVec.eq_of_getLsbD_eq
    intro j hj
    rw [key j hj, h, b1 j hj, Bool.and_true]
theorem bt_and {v w : Int32} {k : Nat} : bt (v &&& w) k = (bt v k && bt w k) := by
  unfold bt
  rw [Int32.toBitVec_and, BitVec.getLsbD_and]
theorem bt_0 {k : Nat} : bt (nI 0) k = false := by
  unfold bt
  show (0#32).getLsbD k = false
  simp
section P43
variable {E E' : KE} {S : Shp} {d d' : Nat} {x1 x2 x3 : Int32} {σ τ : Sg} {Z : Int32 → Int32 → Sg → Sg → Prop} {K : Int32 → Sg → Prop} {L : Sg → Prop}
/-- the days on which somebody is up, as bits -/
def udF (σ : Sg) (p : Nat) : Nat → Int32
  | 0 => nI 0
  | k + 1 => if lvF σ p k ≤ 0 then udF σ p k else udF σ p k ||| ((nI 1) <<< ((nI k) &&& 31))
theorem udF_bt {σ : Sg} {p j : Nat} : ∀ k, k ≤ 28 → j < 32 → (bt (udF σ p k) j = true ↔ j < k ∧ 0 < lvF σ p j)
  | 0, _, _ => by simp only [udF, bt_0]; exact ⟨fun h => (Bool.noConfusion h), fun h => absurd h.1 (Nat.not_lt_zero j)⟩
  | k + 1, hk, hj => by
    have ih := udF_bt (σ := σ) (p := p) (j := j) k (by omega) hj
    simp only [udF]
    by_cases c : lvF σ p k ≤ 0
    · rw [if_pos c, ih]
      constructor
      · rintro ⟨a, b⟩; exact ⟨by omega, b⟩
      · rintro ⟨a, b⟩
        refine ⟨?_, b⟩
        by_cases e : j = k
        · subst e; rw [k_lei] at c; rw [k_lti] at b; omega
        · omega
    · rw [if_neg c, bt_or (by omega) hj, Bool.or_eq_true, ih, decide_eq_true_iff]
      constructor
      · rintro (⟨a, b⟩ | e)
        · exact ⟨by omega, b⟩
        · subst e; exact ⟨by omega, by rw [k_lei] at c; rw [k_lti]; omega⟩
      · rintro ⟨a, b⟩
        by_cases e : j = k
        · exact Or.inr e
        · exact Or.inl ⟨by omega, b⟩
theorem T_upDays {p : Nat} (hp : p < 6) (h : K (udF σ p 28) σ) : CallI E shC (d + 2) mX1_upDays [.ref 2, .int (nI p)] σ K := by
  refine vc_People_upDays ?_
  have loop : ∀ r k, k + r = 28 → WP E shC mX1_upDays (d + 1 + 1) 4 [some (.ref 2), some (.int (nI p)), some (.int (udF σ p k)), some (.int (nI k))] [] σ (k_qi K) := by
    intro r
    induction r with
    | zero =>
      intro k hk
      have e : k = 28 := by omega
      subst e
      apply vb_People_upDays_4
      exact ⟨fun _ => h, fun z => absurd (Int32.le_refl _) z⟩
    | succ r ih =>
      intro k hk
      have ih := ih (k + 1) (by omega)
      simp only [udF] at ih
      apply vb_People_upDays_4
      rw [nI_leI (by omega) (by omega), nI_add]
      refine ⟨fun z => absurd z (by omega), fun _ => T_livesOf hp (by omega) ⟨fun c => ?_, fun c => ?_⟩⟩
      · rw [if_pos c] at ih; exact ih
      · rw [if_neg c] at ih; exact ih
  exact loop 28 0 rfl
theorem P_meet (hR : RR σ τ) (h : ∀ v σ' τ', RR σ' τ' → Z v v σ' τ') : CallI E shC (d + 4) mX10_meet [.ref 0, .int x1, .int x2] σ (fun v σ' => CallI E' shR (d' + 4) mX11_meet [.ref 0, .int x1, .int x2] τ (fun w τ' => Z v w σ' τ')) := by
  have hE : RE σ := ⟨_, hR.rw⟩
  have hA := hE.a
  have hRA := hR.rw.ra
  obtain ⟨e6, -⟩ := nT_eq hE.c
  have e0 : τ 1 0 = nI (nT σ) := hR.rw.rc.1.trans e6
  have hT := hR.1.2
  have hn := nP_le hA
  refine vc_SD_meet (T_areTwo hA (k_ifn (fun q => ?_) (fun q => T_err (by decide) ?_)))
  rotate_left
  · exact vc_Md_meet (T_MareTwo hA hRA (k_ifnF q (T_Merr1 (h _ _ _ (hR.err (by decide))))))
  obtain ⟨⟨p, hp, rfl⟩, ⟨o, ho, rfl⟩, hpo⟩ := id q
  refine T_upDays (by omega) (T_upDays (by omega) ?_)
  have test : ∀ j, j < 28 → (((udF σ p 28 &&& udF σ o 28) >>> ((nI j) &&& 31)) &&& (nI 1) = nI 1 ↔ (0 < lvF σ p j ∧ 0 < lvF σ o j)) := by
    intro j hj
    rw [bt_test (by omega), bt_and, Bool.and_eq_true, udF_bt 28 (by decide) (by omega), udF_bt 28 (by decide) (by omega)]
    exact ⟨fun z => ⟨z.1.2, z.2.2⟩, fun z => ⟨⟨hj, z.1⟩, ⟨hj, z.2⟩⟩⟩
  have key : ∀ r k, k + r = 28 → WP E shC mX10_meet (d + 3 + 1) 48 [some (.ref 0), none, none, some (.int (udF σ p 28 &&& udF σ o 28)), some (.int (nI k))] [] σ (k_qi fun v σ' => WP E' shR mX11_meet (d' + 3 + 1) 18 [some (.ref 0), some (.int (nI p)), some (.int (nI o)), some (.int (nI k)), none] [] τ (k_qi fun w τ' => Z v w σ' τ')) := by
    intro r
    induction r with
    | zero =>
      intro k hk
      have e : k = 28 := by omega
      subst e
      apply vb_SD_meet_48
      refine ⟨fun _ => T_err (by decide) ?_, fun z => absurd (Int32.le_refl _) z⟩
      apply vb_Md_meet_18
      exact ⟨fun _ => T_Merr2 (h _ _ _ (hR.err (by decide))), fun z => absurd (Int32.le_refl _) z⟩
    | succ r ih =>
      intro k hk
      have ih := ih (k + 1) (by omega)
      have hq : (nT σ + k) % 28 < 28 := Nat.mod_lt _ (by decide)
      apply vb_SD_meet_48
      rw [nI_leI (by omega) (by omega), nI_add]
      refine ⟨fun z => absurd z (by omega), fun _ => T_dayIn hE.c (by omega) ?_⟩
      rw [test _ hq]
      refine ⟨fun c => ?_, fun c => ?_⟩
      · refine WP.monoI ih (fun v σ' hk => ?_)
        apply vb_Md_meet_18
        simp (disch := omega) only [nI_clamp, nI_add, pk_mul, pk_sub, ↓pk_rem, pk_div, k_mod, k_m1, nI_ltI, nI_leI, nI_eq, k_n0lt, k_nle0, k_0ltn, k_0len, k_n0eq, k_vin, Nat.reduceAdd, Nat.reduceMul, Nat.reduceLT, Nat.reduceLeDiff, Nat.reduceSub, Nat.reduceEqDiff, Nat.zero_add, Nat.add_zero, e0]
        refine ⟨fun z => absurd z (by omega), fun _ => ⟨trivial, T_MisUp hRA (by omega) hq (k_if (fun c2 => hk) (fun c2 => T_MisUp hRA (by omega) hq (k_if (fun c3 => hk) (fun c3 => absurd ⟨c2, c3⟩ c))))⟩⟩
      · apply vb_Md_meet_18
        simp (disch := omega) only [nI_clamp, nI_add, pk_mul, pk_sub, ↓pk_rem, pk_div, k_mod, k_m1, nI_ltI, nI_leI, nI_eq, k_n0lt, k_nle0, k_0ltn, k_0len, k_n0eq, k_vin, Nat.reduceAdd, Nat.reduceMul, Nat.reduceLT, Nat.reduceLeDiff, Nat.reduceSub, Nat.reduceEqDiff, Nat.zero_add, Nat.add_zero, e0]
        refine ⟨fun z => absurd z (by omega), fun _ => ⟨trivial, T_MisUp hRA (by omega) hq (k_ifT c.1 (T_MisUp hRA (by omega) hq (k_ifT c.2 (h _ _ _ hR))))⟩⟩
  refine WP.monoI (key 28 0 rfl) (fun v σ' hk => vc_Md_meet (T_MareTwo hA hRA (k_ifnT q hk)))
end P43

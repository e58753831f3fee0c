/-! what one lives; a day's number; what somebody has -/
theorem k_mod (a d : Nat) : a - a / d * d = a % d := by
  have := Nat.div_add_mod a d
  rw [Nat.mul_comm] at this
  omega
theorem k_ngt {a b : Int32} (h : b ≤ a) : ¬ a < b := by rw [k_lei] at h; rw [k_lti]; omega
theorem nI_tn (n : Nat) : (nI n).toBitVec.toNat = n % 4294967296 := by
  show (Int32.ofNat n).toBitVec.toNat = _
  simp [Int32.toBitVec_ofNat]
theorem nI_eqM (a b : Nat) : nI a = nI b ↔ a % 4294967296 = b % 4294967296 := by
  constructor
  · intro h
    have := congrArg (fun x : Int32 => x.toBitVec.toNat) h
    simpa only [nI_tn] using this
  · intro h
    apply Int32.toBitVec_inj.mp
    apply BitVec.eq_of_toNat_eq
    rw [nI_tn, nI_tn, h]
theorem T_lives {E : KE} {S : Shp} {d : Nat} {x0 x1 x2 x3 : Int32} {σ : Sg} {K : Int32 → Sg → Prop} (h : K (livesF x0 x1 x2 x3) σ) : CallI E S d mX0_lives [.int x0, .int x1, .int x2, .int x3] σ K := by
  have b : ∀ z0, z0 = (if x3 = x1 - x1 / nI 7 * nI 7 then nI 0 else x2) → WP E S mX0_lives d 13 [some (.int x0), some (.int x1), some (.int x2), some (.int x3), none, none] [.int z0] σ (k_qi K) := by
    intro z0 hz
    unfold livesF at h
    rw [← hz] at h
    apply vb_Kinds_lives_13
    repeat' (first | apply And.intro | intro _)
    all_goals simp_all [nI_eqM]
  refine vc_Kinds_lives ⟨fun q => b _ (if_neg q).symm, fun q => b _ (if_pos q).symm⟩
theorem T_joined {E : KE} {S : Shp} {d : Nat} {x0 x1 x2 : Int32} {σ : Sg} {K : Int32 → Sg → Prop} (h : K (joinF x0 x1 x2) σ) : CallI E S d mX6_joined [.int x0, .int x1, .int x2] σ K := by
  have e1 : ∀ {a b : Int32}, b ≤ a → ¬ a < b := fun h => by rw [k_lei] at h; rw [k_lti]; omega
  have e2 : ∀ {a b : Int32}, ¬ b ≤ a → a < b := fun h => by rw [k_lei] at h; rw [k_lti]; omega
  unfold joinF i1 at h
  apply vc_Text_joined
  repeat' (first | apply And.intro | intro _)
  all_goals simp_all [nI_eqM]
theorem T_twoOf {E : KE} {S : Shp} {d : Nat} {x0 x1 x2 : Int32} {σ : Sg} {K : Int32 → Sg → Prop} (hx : ∃ c : Nat, c ∈ opsL ∧ x0 = nI c) (h : K (joinF x0 x1 x2) σ) : CallI E S d mX11_twoOf [.int x0, .int x1, .int x2] σ K := by
  have e1 : ∀ {a b : Int32}, b ≤ a → ¬ a < b := fun h => by rw [k_lei] at h; rw [k_lti]; omega
  have e2 : ∀ {a b : Int32}, ¬ b ≤ a → a < b := fun h => by rw [k_lei] at h; rw [k_lti]; omega
  unfold joinF i1 at h
  obtain ⟨c, hc, rfl⟩ := hx
  simp only [opsL, List.mem_cons, List.not_mem_nil, or_false] at hc
  apply vc_Md_twoOf
  rcases hc with rfl | rfl | rfl | rfl | rfl | rfl | rfl | rfl | rfl | rfl
  all_goals (repeat' (first | apply And.intro | intro _))
  all_goals simp_all [nI_eqM]
  all_goals (rw [if_neg (k_ngt (by assumption))] at h; exact h)
theorem T_operand {E : KE} {S : Shp} {d : Nat} {x0 x1 x2 x3 : Int32} {σ : Sg} {K : Int32 → Sg → Prop} (h : K (oprF x0 x1 x2 x3) σ) : CallI E S d mX6_operand [.int x0, .int x1, .int x2, .int x3] σ K := by
  unfold oprF at h
  apply vc_Text_operand
  repeat' (first | apply And.intro | intro _)
  all_goals simp_all [nI_eqM]
theorem T_timesOf {E : KE} {d p q : Nat} {σ : Sg} {K : Int32 → Sg → Prop} (hp : p < 6) (hq : q < 28) (h : K (σ 7 (p * 28 + q)) σ) : CallI E shC d mX1_timesOf [.ref 2, .int (nI p), .int (nI q)] σ K := by
  refine vc_People_timesOf ?_
  simp (disch := omega) only [nI_clamp, nI_add, pk_mul, pk_sub, ↓pk_rem, pk_div, k_mod, k_m1, nI_ltI, nI_leI, nI_eq, k_n0lt, k_nle0, k_0ltn, k_0len, k_n0eq, k_vin, Nat.reduceAdd, Nat.reduceMul, Nat.reduceLT, Nat.reduceLeDiff, Nat.reduceSub, Nat.reduceEqDiff, Nat.zero_add, Nat.add_zero]
  exact ⟨trivial, h⟩
theorem T_setTimes {E : KE} {d p q : Nat} {v : Int32} {σ : Sg} {K : Sg → Prop} (hp : p < 6) (hq : q < 28) (h : K (k_put σ 7 (upd (σ 7) (p * 28 + q) v))) : CallN E shC d mX1_setTimes [.ref 2, .int (nI p), .int (nI q), .int v] σ K := by
  refine vc_People_setTimes ?_
  simp (disch := omega) only [nI_clamp, nI_add, pk_mul, pk_sub, ↓pk_rem, pk_div, k_mod, k_m1, nI_ltI, nI_leI, nI_eq, k_n0lt, k_nle0, k_0ltn, k_0len, k_n0eq, k_vin, Nat.reduceAdd, Nat.reduceMul, Nat.reduceLT, Nat.reduceLeDiff, Nat.reduceSub, Nat.reduceEqDiff, Nat.zero_add, Nat.add_zero]
  refine ⟨trivial, ?_⟩
  rintro _ rfl
  exact h
theorem T_livesOf {E : KE} {d p q : Nat} {σ : Sg} {K : Int32 → Sg → Prop} (hp : p < 6) (hq : q < 28) (h : K (lvF σ p q) σ) : CallI E shC (d + 1) mX1_livesOf [.ref 2, .int (nI p), .int (nI q)] σ K := by
  refine vc_People_livesOf ?_
  simp (disch := omega) only [nI_clamp, nI_add, pk_mul, pk_sub, ↓pk_rem, pk_div, k_mod, k_m1, nI_ltI, nI_leI, nI_eq, k_n0lt, k_nle0, k_0ltn, k_0len, k_n0eq, k_vin, Nat.reduceAdd, Nat.reduceMul, Nat.reduceLT, Nat.reduceLeDiff, Nat.reduceSub, Nat.reduceEqDiff, Nat.zero_add, Nat.add_zero]
  exact ⟨trivial, trivial, T_timesOf hp hq (T_lives h)⟩
theorem T_isUp {E : KE} {d p q : Nat} {σ : Sg} {K : Int32 → Sg → Prop} (hp : p < 6) (hq : q < 28) (h : K (k_b (0 < lvF σ p q)) σ) : CallI E shC (d + 2) mX1_isUp [.ref 2, .int (nI p), .int (nI q)] σ K := by
  refine vc_People_isUp (T_livesOf hp hq ⟨fun q => ?_, fun q => ?_⟩)
  · rw [k_bF (by rw [k_lei] at q; rw [k_lti]; omega)] at h; exact h
  · rw [k_bT (by rw [k_lei] at q; rw [k_lti]; omega)] at h; exact h
theorem T_Mof {E : KE} {d p w : Nat} {σ : Sg} {K : Int32 → Sg → Prop} (hp : p < 6) (hw : w < 32) (h : K (σ 1 (10 + 32 * p + w)) σ) : CallI E shR d mX11_of [.ref 0, .int (nI p), .int (nI w)] σ K := by
  refine vc_Md_of ?_
  simp (disch := omega) only [nI_clamp, nI_add, pk_mul, pk_sub, ↓pk_rem, pk_div, k_mod, k_m1, nI_ltI, nI_leI, nI_eq, k_n0lt, k_nle0, k_0ltn, k_0len, k_n0eq, k_vin, Nat.reduceAdd, Nat.reduceMul, Nat.reduceLT, Nat.reduceLeDiff, Nat.reduceSub, Nat.reduceEqDiff, Nat.zero_add, Nat.add_zero]
  exact ⟨trivial, h⟩
theorem T_Mlay {E : KE} {d p w : Nat} {v : Int32} {σ : Sg} {K : Sg → Prop} (hp : p < 6) (hw : w < 32) (h : K (k_put σ 1 (upd (σ 1) (10 + 32 * p + w) v))) : CallN E shR d mX11_lay [.ref 0, .int (nI p), .int (nI w), .int v] σ K := by
  refine vc_Md_lay ?_
  simp (disch := omega) only [nI_clamp, nI_add, pk_mul, pk_sub, ↓pk_rem, pk_div, k_mod, k_m1, nI_ltI, nI_leI, nI_eq, k_n0lt, k_nle0, k_0ltn, k_0len, k_n0eq, k_vin, Nat.reduceAdd, Nat.reduceMul, Nat.reduceLT, Nat.reduceLeDiff, Nat.reduceSub, Nat.reduceEqDiff, Nat.zero_add, Nat.add_zero]
  refine ⟨trivial, ?_⟩
  rintro _ rfl
  exact h
/-- what one lives, by the reference -/
theorem T_MlivesOf {E : KE} {d p q : Nat} {σ τ : Sg} {K : Int32 → Sg → Prop} (hR : RA σ (τ 1)) (hp : p < 6) (hq : q < 28) (h : K (lvF σ p q) τ) : CallI E shR (d + 1) mX11_livesOf [.ref 0, .int (nI p), .int (nI q)] τ K := by
  obtain ⟨⟨h1, h2, -, -⟩, h3⟩ := hR.2 p hp
  have h3 := h3 q hq
  refine vc_Md_livesOf ?_
  simp (disch := omega) only [nI_clamp, nI_add, pk_mul, pk_sub, ↓pk_rem, pk_div, k_mod, k_m1, nI_ltI, nI_leI, nI_eq, k_n0lt, k_nle0, k_0ltn, k_0len, k_n0eq, k_vin, Nat.reduceAdd, Nat.reduceMul, Nat.reduceLT, Nat.reduceLeDiff, Nat.reduceSub, Nat.reduceEqDiff, Nat.zero_add, Nat.add_zero]
  refine T_Mof hp (by omega) (T_Mof hp (by omega) ?_)
  rw [h2, h3]
  unfold lvF livesF at h
  have b : ∀ z0, z0 = (if nI (q % 7) = σ 4 p - σ 4 p / nI 7 * nI 7 then nI 0 else σ 7 (p * 28 + q)) → WP E shR mX11_livesOf (d + 1) 38 [some (.ref 0), some (.int (nI p)), none, some (.int (σ 7 (p * 28 + q))), some (.int (σ 4 p)), some (.int (nI (q % 7))), none, none] [.int z0] τ (k_qi K) := by
    intro z0 hz
    rw [← hz] at h
    have e0 : τ 1 (10 + 32 * p + 0) = σ 3 p := h1
    apply vb_Md_livesOf_38
    have ez : nI 2 * z0 = z0 * nI 2 := Int32.mul_comm _ _
    rw [ez]
    refine ⟨fun _ => T_Mof hp (by omega) ?_, fun _ => T_Mof hp (by omega) ?_⟩
    all_goals rw [e0]
    all_goals (repeat' (first | apply And.intro | intro _))
    all_goals simp_all [nI_eqM]
  exact ⟨fun q => b _ (if_neg q).symm, fun q => b _ (if_pos q).symm⟩
theorem T_MisUp {E : KE} {d p q : Nat} {σ τ : Sg} {K : Int32 → Sg → Prop} (hR : RA σ (τ 1)) (hp : p < 6) (hq : q < 28) (h : K (k_b (0 < lvF σ p q)) τ) : CallI E shR (d + 2) mX11_isUp [.ref 0, .int (nI p), .int (nI q)] τ K := by
  refine vc_Md_isUp (T_MlivesOf hR hp hq ⟨fun q => ?_, fun q => ?_⟩)
  · rw [k_bF (by rw [k_lei] at q; rw [k_lti]; omega)] at h; exact h
  · rw [k_bT (by rw [k_lei] at q; rw [k_lti]; omega)] at h; exact h

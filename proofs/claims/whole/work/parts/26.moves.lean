/-! the relation, part by part, when something else is written -/
theorem IvA.fr {σ σ' : Sg} (h : IvA σ) (e : ∀ i, 2 ≤ i → i ≤ 7 → σ' i = σ i) : IvA σ' := by
  unfold IvA at *
  rw [e 2 (by decide) (by decide), e 3 (by decide) (by decide), e 4 (by decide) (by decide), e 5 (by decide) (by decide), e 6 (by decide) (by decide), e 7 (by decide) (by decide)]; exact h
theorem RA.fr {σ σ' : Sg} {row row' : Nat → Int32} (h : RA σ row) (e : ∀ i, 2 ≤ i → i ≤ 7 → σ' i = σ i) (er : ∀ j, (j = 2 ∨ 10 ≤ j ∧ j < 202) → row' j = row j) : RA σ' row' := by
  unfold RA at *
  rw [e 2 (by decide) (by decide), e 3 (by decide) (by decide), e 4 (by decide) (by decide), e 5 (by decide) (by decide), e 6 (by decide) (by decide), e 7 (by decide) (by decide), er 2 (Or.inl rfl)]
  refine ⟨h.1, fun p hp => ⟨?_, fun d hd => ?_⟩⟩
  · rw [er _ (by omega), er _ (by omega), er _ (by omega), er _ (by omega)]; exact (h.2 p hp).1
  · rw [er _ (by omega)]; exact (h.2 p hp).2 d hd
theorem IvQ.fr {σ σ' : Sg} (h : IvQ σ) (e2 : σ' 2 5 = σ 2 5) (e : ∀ i, 8 ≤ i → i ≤ 11 → σ' i = σ i) : IvQ σ' := by
  unfold IvQ nP nQ at *
  rw [e2, e 8 (by decide) (by decide), e 9 (by decide) (by decide), e 10 (by decide) (by decide), e 11 (by decide) (by decide)]; exact h
theorem RQ.fr {σ σ' : Sg} {row row' : Nat → Int32} (h : RQ σ row) (e : ∀ i, 8 ≤ i → i ≤ 11 → σ' i = σ i) (er : ∀ j, (j = 3 ∨ 202 ≤ j ∧ j < 226) → row' j = row j) : RQ σ' row' := by
  unfold RQ at *
  rw [e 8 (by decide) (by decide), e 9 (by decide) (by decide), e 10 (by decide) (by decide), e 11 (by decide) (by decide), er 3 (Or.inl rfl)]
  refine ⟨h.1, fun k hk => ?_⟩
  rw [er _ (by omega), er _ (by omega), er _ (by omega)]; exact h.2 k hk
theorem IvC.fr {σ σ' : Sg} (h : IvC σ) (e : σ' 1 = σ 1) : IvC σ' := by
  unfold IvC at *
  rw [e]; exact h
theorem RC.fr {σ σ' : Sg} {row row' : Nat → Int32} (h : RC σ row) (e : σ' 1 = σ 1) (er : ∀ j, j < 10 → j ≠ 2 → j ≠ 3 → j ≠ 8 → j ≠ 9 → row' j = row j) : RC σ' row' := by
  unfold RC at *
  rw [e, er 0 (by decide) (by decide) (by decide) (by decide) (by decide), er 1 (by decide) (by decide) (by decide) (by decide) (by decide), er 4 (by decide) (by decide) (by decide) (by decide) (by decide), er 5 (by decide) (by decide) (by decide) (by decide) (by decide), er 6 (by decide) (by decide) (by decide) (by decide) (by decide), er 7 (by decide) (by decide) (by decide) (by decide) (by decide)]
  exact h
theorem cl_lt {x : Int32} {n : Nat} (h : k_lt x n) (hn : n < 2 ^ 31) : cl x < n ∧ x = nI (cl x) := by
  obtain ⟨j, h1, rfl⟩ := h
  have e : cl (nI j) = j := nI_clamp (by omega)
  rw [e]; exact ⟨h1, rfl⟩
theorem RB.fr {σ σ' : Sg} {row row' : Nat → Int32} (h : RB σ row) (e : ∀ i, 20 ≤ i → i ≤ 23 → σ' i = σ i) (er : ∀ j, (j = 8 ∨ j = 9 ∨ 226 ≤ j ∧ j < 310) → row' j = row j) : RB σ' row' := by
  obtain ⟨⟨h1, h2, h3⟩, ⟨h4, h5, h6⟩⟩ := h
  have l1 := (cl_lt h1 (by decide)).1
  have l2 := (cl_lt h4 (by decide)).1
  unfold RB
  rw [e 20 (by decide) (by decide), e 21 (by decide) (by decide), e 22 (by decide) (by decide), e 23 (by decide) (by decide), er 8 (by omega), er 9 (by omega)]
  exact ⟨⟨h1, h2, fun j hj => by rw [er _ (by omega)]; exact h3 j hj⟩, ⟨h4, h5, fun j hj => by rw [er _ (by omega)]; exact h6 j hj⟩⟩
theorem RT.fr {n : Int32} {f row row' : Nat → Int32} {at_ : Nat} (h : RT n f row at_) (er : ∀ j, at_ ≤ j → j < at_ + 121 → row' j = row j) : RT n f row' at_ := by
  obtain ⟨h1, h2, h3, h4⟩ := h
  have l1 := (cl_lt h1 (by decide)).1
  exact ⟨h1, by rw [er _ (by omega) (by omega)]; exact h2, fun j hj => by rw [er _ (by omega) (by omega), er _ (by omega) (by omega)]; exact h3 j hj, h4⟩
theorem RX.fr {σ σ' : Sg} {row row' : Nat → Int32} (h : RX σ row) (e : ∀ i, (i = 13 ∨ i = 14 ∨ i = 17 ∨ i = 18) → σ' i = σ i) (er : ∀ j, 310 ≤ j → j < 552 → row' j = row j) : RX σ' row' := by
  unfold RX
  rw [e 13 (by omega), e 14 (by omega), e 17 (by omega), e 18 (by omega)]
  exact ⟨h.1.fr (fun j q1 q2 => er j q1 (by omega)), h.2.fr (fun j q1 q2 => er j (by omega) (by omega))⟩
theorem RR.now {σ σ' τ : Sg} {row' : Nat → Int32} (h : RR σ τ) (hw : RW σ' row') (ht : nT σ' < 10000) (e : ∀ i, (24 ≤ i ∧ i ≤ 46 ∨ i = 0 ∨ 57 ≤ i) → σ' i = σ i) : RR σ' (k_put τ 1 row') := by
  obtain ⟨-, ⟨h3, h4⟩, h5, h6, h7⟩ := h
  have eI : ∀ i, i ∈ [1, 2, 3, 4, 5, 6, 7, 8, 9, 10, 11, 13, 14, 17, 18, 20, 21, 22, 23] → k_sh σ' i = k_sh σ i := fun i q => e (i + 23) (by
    have : 1 ≤ i ∧ i ≤ 23 := by revert i; decide
    omega)
  have e24 : k_sh σ' 1 = k_sh σ 1 := e 24 (by omega)
  have e0 : σ' 0 = σ 0 := e 0 (by omega)
  refine ⟨⟨by rw [k_put_at]; exact hw, ht⟩, ⟨by rw [k_put_ne (by decide), e0]; exact h3, ?_⟩, ?_, ?_, ?_⟩
  · rw [e0, k_put_ne (by decide)]; intro q
    refine ⟨(h4 q).1.congr eI, ?_⟩
    have := (h4 q).2
    simp only [nT] at *
    rw [e24]; exact this
  · rw [k_put_ne (by decide), e 63 (by omega)]; exact h5
  · unfold RS at *
    rw [k_put_ne (by decide), k_put_ne (by decide), k_put_ne (by decide), e 60 (by omega), e 61 (by omega), e 62 (by omega)]; exact h6
  · unfold RV at *
    rw [k_put_ne (by decide), k_put_ne (by decide), e 57 (by omega), e 58 (by omega)]; exact h7
/-! an error is counted -/
abbrev errC (σ : Sg) (k : Nat) : Sg := k_put σ 63 (upd (σ 63) k (σ 63 k + nI 1))
abbrev errR (τ : Sg) (k : Nat) : Sg := k_put τ 4 (upd (τ 4) k (τ 4 k + nI 1))
theorem RR.err {σ τ : Sg} {k : Nat} (h : RR σ τ) (hk : k < 7) : RR (errC σ k) (errR τ k) := by
  obtain ⟨⟨h1, h2⟩, ⟨h3, h4⟩, h5, h6, h7⟩ := h
  refine ⟨⟨?_, h2⟩, ⟨h3, h4⟩, ?_, h6, h7⟩
  · exact h1.congr (fun i q => k_put_ne (by revert i; decide))
  · intro j hj
    unfold errC errR
    rw [k_put_at, k_put_at]
    by_cases e : j = k
    · subst e; rw [upd_at, upd_at, h5 j hj]
    · rw [upd_ne e, upd_ne e]; exact h5 j hj
theorem T_err {E : KE} {d k : Nat} {σ : Sg} {K : Int32 → Sg → Prop} (hk : k < 7) (h : K ((-1000000000 : Int32) - nI k) (errC σ k)) : CallI E shC d mX10_error [.ref 0, .int (nI k)] σ K := by
  refine vc_SD_error ?_
  simp (disch := omega) only [nI_clamp, nI_add, pk_mul, pk_sub, ↓pk_rem, pk_div, k_mod, k_m1, nI_ltI, nI_leI, nI_eq, k_n0lt, k_nle0, k_0ltn, k_0len, k_n0eq, k_vin, Nat.reduceAdd, Nat.reduceMul, Nat.reduceLT, Nat.reduceLeDiff, Nat.reduceSub, Nat.reduceEqDiff, Nat.zero_add, Nat.add_zero]
  refine ⟨trivial, trivial, ?_⟩
  rintro _ rfl
  exact h
theorem T_Merr1 {E : KE} {d : Nat} {σ : Sg} {K : Int32 → Sg → Prop} (h : K ((-1000000000 : Int32) - nI 1) (errR σ 1)) : CallI E shR d mX11_error [.ref 0, .int (-1000000001 : Int32)] σ K := by
  refine vc_Md_error ?_
  have e : (-1000000000 : Int32) - (-1000000001 : Int32) = nI 1 := by decide
  rw [e]
  simp (disch := omega) only [nI_clamp, nI_add, pk_mul, pk_sub, ↓pk_rem, pk_div, k_mod, k_m1, nI_ltI, nI_leI, nI_eq, k_n0lt, k_nle0, k_0ltn, k_0len, k_n0eq, k_vin, Nat.reduceAdd, Nat.reduceMul, Nat.reduceLT, Nat.reduceLeDiff, Nat.reduceSub, Nat.reduceEqDiff, Nat.zero_add, Nat.add_zero]
  refine ⟨trivial, trivial, ?_⟩
  rintro _ rfl
  exact h
theorem T_Merr2 {E : KE} {d : Nat} {σ : Sg} {K : Int32 → Sg → Prop} (h : K ((-1000000000 : Int32) - nI 2) (errR σ 2)) : CallI E shR d mX11_error [.ref 0, .int (-1000000002 : Int32)] σ K := by
  refine vc_Md_error ?_
  have e : (-1000000000 : Int32) - (-1000000002 : Int32) = nI 2 := by decide
  rw [e]
  simp (disch := omega) only [nI_clamp, nI_add, pk_mul, pk_sub, ↓pk_rem, pk_div, k_mod, k_m1, nI_ltI, nI_leI, nI_eq, k_n0lt, k_nle0, k_0ltn, k_0len, k_n0eq, k_vin, Nat.reduceAdd, Nat.reduceMul, Nat.reduceLT, Nat.reduceLeDiff, Nat.reduceSub, Nat.reduceEqDiff, Nat.zero_add, Nat.add_zero]
  refine ⟨trivial, trivial, ?_⟩
  rintro _ rfl
  exact h
theorem T_Merr3 {E : KE} {d : Nat} {σ : Sg} {K : Int32 → Sg → Prop} (h : K ((-1000000000 : Int32) - nI 3) (errR σ 3)) : CallI E shR d mX11_error [.ref 0, .int (-1000000003 : Int32)] σ K := by
  refine vc_Md_error ?_
  have e : (-1000000000 : Int32) - (-1000000003 : Int32) = nI 3 := by decide
  rw [e]
  simp (disch := omega) only [nI_clamp, nI_add, pk_mul, pk_sub, ↓pk_rem, pk_div, k_mod, k_m1, nI_ltI, nI_leI, nI_eq, k_n0lt, k_nle0, k_0ltn, k_0len, k_n0eq, k_vin, Nat.reduceAdd, Nat.reduceMul, Nat.reduceLT, Nat.reduceLeDiff, Nat.reduceSub, Nat.reduceEqDiff, Nat.zero_add, Nat.add_zero]
  refine ⟨trivial, trivial, ?_⟩
  rintro _ rfl
  exact h
theorem T_Merr4 {E : KE} {d : Nat} {σ : Sg} {K : Int32 → Sg → Prop} (h : K ((-1000000000 : Int32) - nI 4) (errR σ 4)) : CallI E shR d mX11_error [.ref 0, .int (-1000000004 : Int32)] σ K := by
  refine vc_Md_error ?_
  have e : (-1000000000 : Int32) - (-1000000004 : Int32) = nI 4 := by decide
  rw [e]
  simp (disch := omega) only [nI_clamp, nI_add, pk_mul, pk_sub, ↓pk_rem, pk_div, k_mod, k_m1, nI_ltI, nI_leI, nI_eq, k_n0lt, k_nle0, k_0ltn, k_0len, k_n0eq, k_vin, Nat.reduceAdd, Nat.reduceMul, Nat.reduceLT, Nat.reduceLeDiff, Nat.reduceSub, Nat.reduceEqDiff, Nat.zero_add, Nat.add_zero]
  refine ⟨trivial, trivial, ?_⟩
  rintro _ rfl
  exact h
theorem T_Merr5 {E : KE} {d : Nat} {σ : Sg} {K : Int32 → Sg → Prop} (h : K ((-1000000000 : Int32) - nI 5) (errR σ 5)) : CallI E shR d mX11_error [.ref 0, .int (-1000000005 : Int32)] σ K := by
  refine vc_Md_error ?_
  have e : (-1000000000 : Int32) - (-1000000005 : Int32) = nI 5 := by decide
  rw [e]
  simp (disch := omega) only [nI_clamp, nI_add, pk_mul, pk_sub, ↓pk_rem, pk_div, k_mod, k_m1, nI_ltI, nI_leI, nI_eq, k_n0lt, k_nle0, k_0ltn, k_0len, k_n0eq, k_vin, Nat.reduceAdd, Nat.reduceMul, Nat.reduceLT, Nat.reduceLeDiff, Nat.reduceSub, Nat.reduceEqDiff, Nat.zero_add, Nat.add_zero]
  refine ⟨trivial, trivial, ?_⟩
  rintro _ rfl
  exact h
theorem T_Merr6 {E : KE} {d : Nat} {σ : Sg} {K : Int32 → Sg → Prop} (h : K ((-1000000000 : Int32) - nI 6) (errR σ 6)) : CallI E shR d mX11_error [.ref 0, .int (-1000000006 : Int32)] σ K := by
  refine vc_Md_error ?_
  have e : (-1000000000 : Int32) - (-1000000006 : Int32) = nI 6 := by decide
  rw [e]
  simp (disch := omega) only [nI_clamp, nI_add, pk_mul, pk_sub, ↓pk_rem, pk_div, k_mod, k_m1, nI_ltI, nI_leI, nI_eq, k_n0lt, k_nle0, k_0ltn, k_0len, k_n0eq, k_vin, Nat.reduceAdd, Nat.reduceMul, Nat.reduceLT, Nat.reduceLeDiff, Nat.reduceSub, Nat.reduceEqDiff, Nat.zero_add, Nat.add_zero]
  refine ⟨trivial, trivial, ?_⟩
  rintro _ rfl
  exact h
/-! who somebody is -/
theorem T_knows {E : KE} {d : Nat} {x : Int32} {σ : Sg} {K : Int32 → Sg → Prop} (hA : IvA σ) (h : K (k_b (k_lt x (nP σ))) σ) : CallI E shC d mX1_knows [.ref 2, .int x] σ K := by
  obtain ⟨n, hn, e⟩ := hA.1
  have ecl : nP σ = n := by unfold nP; rw [e]; exact nI_clamp (by omega)
  rw [ecl] at h
  have z : (nI n).toInt = n := nI_toInt (by omega)
  have q9 : k_lt x n ↔ ¬ x < 0 ∧ ¬ nI n ≤ x := by
    rw [k_lt_iff (by omega), k_lti, k_lei, z]; simp only [Int32.toInt_zero]; omega
  refine vc_People_knows ?_
  rw [e]
  refine ⟨fun q => ?_, fun q => ⟨fun q2 => ?_, fun q2 => ?_⟩⟩
  · rw [k_bF (by rw [q9]; exact fun w => w.1 q)] at h; exact h
  · rw [k_bF (by rw [q9]; exact fun w => w.2 q2)] at h; exact h
  · rw [k_bT (by rw [q9]; exact ⟨q, q2⟩)] at h; exact h
theorem T_areTwo {E : KE} {d : Nat} {x y : Int32} {σ : Sg} {K : Int32 → Sg → Prop} (hA : IvA σ) (h : K (k_b (k_lt x (nP σ) ∧ k_lt y (nP σ) ∧ ¬ x = y)) σ) : CallI E shC (d + 1) mX1_areTwo [.ref 2, .int x, .int y] σ K := by
  refine vc_People_areTwo (T_knows hA (k_if (fun q => ?_) (fun q => T_knows hA (k_if (fun q2 => ?_) (fun q2 => ⟨fun q3 => ?_, fun q3 => ?_⟩)))))
  · rw [k_bF (fun w => q w.1)] at h; exact h
  · rw [k_bF (fun w => q2 w.2.1)] at h; exact h
  · rw [k_bF (fun w => w.2.2 q3)] at h; exact h
  · rw [k_bT ⟨q, q2, q3⟩] at h; exact h
theorem T_isPerson {E : KE} {d : Nat} {x : Int32} {σ τ : Sg} {K : Int32 → Sg → Prop} (hA : IvA σ) (hR : RA σ (τ 1)) (h : K (k_b (k_lt x (nP σ))) τ) : CallI E shR (d + 1) mX11_isPerson [.ref 0, .int x] τ K := by
  obtain ⟨n, hn, e⟩ := hA.1
  have ecl : nP σ = n := by unfold nP; rw [e]; exact nI_clamp (by omega)
  rw [ecl] at h
  have z0 : (nI 0).toInt = 0 := by decide
  refine vc_Md_isPerson ?_
  simp (disch := omega) only [nI_clamp, nI_add, pk_mul, pk_sub, ↓pk_rem, pk_div, k_mod, k_m1, nI_ltI, nI_leI, nI_eq, k_n0lt, k_nle0, k_0ltn, k_0len, k_n0eq, k_vin, Nat.reduceAdd, Nat.reduceMul, Nat.reduceLT, Nat.reduceLeDiff, Nat.reduceSub, Nat.reduceEqDiff, Nat.zero_add, Nat.add_zero, hR.1, e]
  refine ⟨trivial, T_in ⟨k_b01, ?_⟩⟩
  have q9 : ((nI 0).toInt ≤ x.toInt ∧ x.toInt ≤ (nI n - nI 1).toInt) ↔ k_lt x n := by
    rw [k_lt_iff (by omega), pk_sub_toInt (by omega) (by decide), z0]; omega
  rw [k_bc q9]; exact h
theorem T_MareTwo {E : KE} {d : Nat} {x y : Int32} {σ τ : Sg} {K : Int32 → Sg → Prop} (hA : IvA σ) (hR : RA σ (τ 1)) (h : K (k_b (k_lt x (nP σ) ∧ k_lt y (nP σ) ∧ ¬ x = y)) τ) : CallI E shR (d + 2) mX11_areTwo [.ref 0, .int x, .int y] τ K := by
  refine vc_Md_areTwo (T_isPerson hA hR (k_if (fun q => ?_) (fun q => T_isPerson hA hR (k_if (fun q2 => ?_) (fun q2 => ⟨fun q3 => ?_, fun q3 => ?_⟩)))))
  · rw [k_bF (fun w => q w.1)] at h; exact h
  · rw [k_bF (fun w => q2 w.2.1)] at h; exact h
  · rw [k_bF (fun w => w.2.2 q3)] at h; exact h
  · rw [k_bT ⟨q, q2, q3⟩] at h; exact h
theorem T_becomes {E : KE} {d i : Nat} {v : Int32} {τ : Sg} {K : Int32 → Sg → Prop} (hi : i < 552) (h : K (τ 1 i) (k_put τ 1 (upd (τ 1) i v))) : CallI E shR d mX11_becomes [.ref 0, .int (nI i), .int v] τ K := by
  refine vc_Md_becomes ?_
  simp (disch := omega) only [nI_clamp, nI_add, pk_mul, pk_sub, ↓pk_rem, pk_div, k_mod, k_m1, nI_ltI, nI_leI, nI_eq, k_n0lt, k_nle0, k_0ltn, k_0len, k_n0eq, k_vin, Nat.reduceAdd, Nat.reduceMul, Nat.reduceLT, Nat.reduceLeDiff, Nat.reduceSub, Nat.reduceEqDiff, Nat.zero_add, Nat.add_zero]
  refine ⟨trivial, trivial, ?_⟩
  rintro _ rfl
  exact h
theorem nP_le {σ : Sg} (hA : IvA σ) : nP σ ≤ 6 := by have := (cl_lt hA.1 (by decide)).1; unfold nP; omega
/-! one number of somebody's is written -/
theorem RA.up3 {σ : Sg} {row : Nat → Int32} {p : Nat} {v : Int32} (h : RA σ row) (hp : p < 6) : RA (k_put σ 3 (upd (σ 3) p v)) (upd row (10 + 32 * p ) v) := by
  obtain ⟨h1, h2⟩ := h
  refine ⟨by rw [upd_ne (by omega), k_put_ne (by decide)]; exact h1, fun q hq => ?_⟩
  obtain ⟨⟨a1, a2, a3, a4⟩, a5⟩ := h2 q hq
  refine ⟨?_, fun e he => by rw [upd_ne (by omega), k_put_ne (by decide)]; exact a5 e he⟩
  by_cases hqp : q = p
  · subst hqp
    refine ⟨?_, ?_, ?_, ?_⟩
    all_goals first | (rw [upd_at, k_put_at, upd_at]; done) | (rw [upd_ne (by omega), k_put_ne (by decide)]; assumption)
  · refine ⟨?_, ?_, ?_, ?_⟩
    all_goals first | (rw [upd_ne (by omega), k_put_ne (by decide)]; assumption) | (rw [upd_ne (by omega), k_put_at, upd_ne hqp]; assumption)
theorem IvA.up3 {σ : Sg} {p : Nat} {v : Int32} (h : IvA σ) (hv : k_lt v 7) : IvA (k_put σ 3 (upd (σ 3) p v)) := by
  obtain ⟨h1, h2⟩ := h
  refine ⟨by rw [k_put_ne (by decide)]; exact h1, fun q hq => ?_⟩
  obtain ⟨⟨a1, a2, a3, a4⟩, a5⟩ := h2 q hq
  refine ⟨?_, fun e he => by rw [k_put_ne (by decide)]; exact a5 e he⟩
  by_cases hqp : q = p
  · subst hqp
    refine ⟨?_, ?_, ?_, ?_⟩
    all_goals first | (rw [k_put_at, upd_at]; exact hv) | (rw [k_put_ne (by decide)]; assumption)
  · refine ⟨?_, ?_, ?_, ?_⟩
    all_goals first | (rw [k_put_ne (by decide)]; assumption) | (rw [k_put_at, upd_ne hqp]; assumption)
theorem RW.up3 {σ : Sg} {row : Nat → Int32} {p : Nat} {v : Int32} (h : RW σ row) (hp : p < 6) (hv : k_lt v 7) : RW (k_put σ 3 (upd (σ 3) p v)) (upd row (10 + 32 * p ) v) := by
  obtain ⟨h1, h2, h3, h4, h5, h6, h7, h8⟩ := h
  exact ⟨h1.up3 hv, h2.up3 hp, h3.fr (by rw [k_put_ne (by decide)]) (fun i a b => k_put_ne (by omega)), h4.fr (fun i a b => k_put_ne (by omega)) (fun j a => upd_ne (by omega)), h5.fr (k_put_ne (by decide)), h6.fr (k_put_ne (by decide)) (fun j a _ _ _ _ => upd_ne (by omega)),
    h7.fr (fun i a b => k_put_ne (by omega)) (fun j a => upd_ne (by omega)), h8.fr (fun i a => k_put_ne (by omega)) (fun j a b => upd_ne (by omega))⟩
theorem RA.up4 {σ : Sg} {row : Nat → Int32} {p : Nat} {v : Int32} (h : RA σ row) (hp : p < 6) : RA (k_put σ 4 (upd (σ 4) p v)) (upd row (10 + 32 * p + 1) v) := by
  obtain ⟨h1, h2⟩ := h
  refine ⟨by rw [upd_ne (by omega), k_put_ne (by decide)]; exact h1, fun q hq => ?_⟩
  obtain ⟨⟨a1, a2, a3, a4⟩, a5⟩ := h2 q hq
  refine ⟨?_, fun e he => by rw [upd_ne (by omega), k_put_ne (by decide)]; exact a5 e he⟩
  by_cases hqp : q = p
  · subst hqp
    refine ⟨?_, ?_, ?_, ?_⟩
    all_goals first | (rw [upd_at, k_put_at, upd_at]; done) | (rw [upd_ne (by omega), k_put_ne (by decide)]; assumption)
  · refine ⟨?_, ?_, ?_, ?_⟩
    all_goals first | (rw [upd_ne (by omega), k_put_ne (by decide)]; assumption) | (rw [upd_ne (by omega), k_put_at, upd_ne hqp]; assumption)
theorem IvA.up4 {σ : Sg} {p : Nat} {v : Int32} (h : IvA σ) (hv : k_lt v 10) : IvA (k_put σ 4 (upd (σ 4) p v)) := by
  obtain ⟨h1, h2⟩ := h
  refine ⟨by rw [k_put_ne (by decide)]; exact h1, fun q hq => ?_⟩
  obtain ⟨⟨a1, a2, a3, a4⟩, a5⟩ := h2 q hq
  refine ⟨?_, fun e he => by rw [k_put_ne (by decide)]; exact a5 e he⟩
  by_cases hqp : q = p
  · subst hqp
    refine ⟨?_, ?_, ?_, ?_⟩
    all_goals first | (rw [k_put_at, upd_at]; exact hv) | (rw [k_put_ne (by decide)]; assumption)
  · refine ⟨?_, ?_, ?_, ?_⟩
    all_goals first | (rw [k_put_ne (by decide)]; assumption) | (rw [k_put_at, upd_ne hqp]; assumption)
theorem RW.up4 {σ : Sg} {row : Nat → Int32} {p : Nat} {v : Int32} (h : RW σ row) (hp : p < 6) (hv : k_lt v 10) : RW (k_put σ 4 (upd (σ 4) p v)) (upd row (10 + 32 * p + 1) v) := by
  obtain ⟨h1, h2, h3, h4, h5, h6, h7, h8⟩ := h
  exact ⟨h1.up4 hv, h2.up4 hp, h3.fr (by rw [k_put_ne (by decide)]) (fun i a b => k_put_ne (by omega)), h4.fr (fun i a b => k_put_ne (by omega)) (fun j a => upd_ne (by omega)), h5.fr (k_put_ne (by decide)), h6.fr (k_put_ne (by decide)) (fun j a _ _ _ _ => upd_ne (by omega)),
    h7.fr (fun i a b => k_put_ne (by omega)) (fun j a => upd_ne (by omega)), h8.fr (fun i a => k_put_ne (by omega)) (fun j a b => upd_ne (by omega))⟩
theorem RA.up5 {σ : Sg} {row : Nat → Int32} {p : Nat} {v : Int32} (h : RA σ row) (hp : p < 6) : RA (k_put σ 5 (upd (σ 5) p v)) (upd row (10 + 32 * p + 2) v) := by
  obtain ⟨h1, h2⟩ := h
  refine ⟨by rw [upd_ne (by omega), k_put_ne (by decide)]; exact h1, fun q hq => ?_⟩
  obtain ⟨⟨a1, a2, a3, a4⟩, a5⟩ := h2 q hq
  refine ⟨?_, fun e he => by rw [upd_ne (by omega), k_put_ne (by decide)]; exact a5 e he⟩
  by_cases hqp : q = p
  · subst hqp
    refine ⟨?_, ?_, ?_, ?_⟩
    all_goals first | (rw [upd_at, k_put_at, upd_at]; done) | (rw [upd_ne (by omega), k_put_ne (by decide)]; assumption)
  · refine ⟨?_, ?_, ?_, ?_⟩
    all_goals first | (rw [upd_ne (by omega), k_put_ne (by decide)]; assumption) | (rw [upd_ne (by omega), k_put_at, upd_ne hqp]; assumption)
theorem IvA.up5 {σ : Sg} {p : Nat} {v : Int32} (h : IvA σ) (hv : k_lt v 10000) : IvA (k_put σ 5 (upd (σ 5) p v)) := by
  obtain ⟨h1, h2⟩ := h
  refine ⟨by rw [k_put_ne (by decide)]; exact h1, fun q hq => ?_⟩
  obtain ⟨⟨a1, a2, a3, a4⟩, a5⟩ := h2 q hq
  refine ⟨?_, fun e he => by rw [k_put_ne (by decide)]; exact a5 e he⟩
  by_cases hqp : q = p
  · subst hqp
    refine ⟨?_, ?_, ?_, ?_⟩
    all_goals first | (rw [k_put_at, upd_at]; exact hv) | (rw [k_put_ne (by decide)]; assumption)
  · refine ⟨?_, ?_, ?_, ?_⟩
    all_goals first | (rw [k_put_ne (by decide)]; assumption) | (rw [k_put_at, upd_ne hqp]; assumption)
theorem RW.up5 {σ : Sg} {row : Nat → Int32} {p : Nat} {v : Int32} (h : RW σ row) (hp : p < 6) (hv : k_lt v 10000) : RW (k_put σ 5 (upd (σ 5) p v)) (upd row (10 + 32 * p + 2) v) := by
  obtain ⟨h1, h2, h3, h4, h5, h6, h7, h8⟩ := h
  exact ⟨h1.up5 hv, h2.up5 hp, h3.fr (by rw [k_put_ne (by decide)]) (fun i a b => k_put_ne (by omega)), h4.fr (fun i a b => k_put_ne (by omega)) (fun j a => upd_ne (by omega)), h5.fr (k_put_ne (by decide)), h6.fr (k_put_ne (by decide)) (fun j a _ _ _ _ => upd_ne (by omega)),
    h7.fr (fun i a b => k_put_ne (by omega)) (fun j a => upd_ne (by omega)), h8.fr (fun i a => k_put_ne (by omega)) (fun j a b => upd_ne (by omega))⟩
theorem RA.up6 {σ : Sg} {row : Nat → Int32} {p : Nat} {v : Int32} (h : RA σ row) (hp : p < 6) : RA (k_put σ 6 (upd (σ 6) p v)) (upd row (10 + 32 * p + 3) v) := by
  obtain ⟨h1, h2⟩ := h
  refine ⟨by rw [upd_ne (by omega), k_put_ne (by decide)]; exact h1, fun q hq => ?_⟩
  obtain ⟨⟨a1, a2, a3, a4⟩, a5⟩ := h2 q hq
  refine ⟨?_, fun e he => by rw [upd_ne (by omega), k_put_ne (by decide)]; exact a5 e he⟩
  by_cases hqp : q = p
  · subst hqp
    refine ⟨?_, ?_, ?_, ?_⟩
    all_goals first | (rw [upd_at, k_put_at, upd_at]; done) | (rw [upd_ne (by omega), k_put_ne (by decide)]; assumption)
  · refine ⟨?_, ?_, ?_, ?_⟩
    all_goals first | (rw [upd_ne (by omega), k_put_ne (by decide)]; assumption) | (rw [upd_ne (by omega), k_put_at, upd_ne hqp]; assumption)
theorem IvA.up6 {σ : Sg} {p : Nat} {v : Int32} (h : IvA σ) (hv : k_lt v 10000) : IvA (k_put σ 6 (upd (σ 6) p v)) := by
  obtain ⟨h1, h2⟩ := h
  refine ⟨by rw [k_put_ne (by decide)]; exact h1, fun q hq => ?_⟩
  obtain ⟨⟨a1, a2, a3, a4⟩, a5⟩ := h2 q hq
  refine ⟨?_, fun e he => by rw [k_put_ne (by decide)]; exact a5 e he⟩
  by_cases hqp : q = p
  · subst hqp
    refine ⟨?_, ?_, ?_, ?_⟩
    all_goals first | (rw [k_put_at, upd_at]; exact hv) | (rw [k_put_ne (by decide)]; assumption)
  · refine ⟨?_, ?_, ?_, ?_⟩
    all_goals first | (rw [k_put_ne (by decide)]; assumption) | (rw [k_put_at, upd_ne hqp]; assumption)
theorem RW.up6 {σ : Sg} {row : Nat → Int32} {p : Nat} {v : Int32} (h : RW σ row) (hp : p < 6) (hv : k_lt v 10000) : RW (k_put σ 6 (upd (σ 6) p v)) (upd row (10 + 32 * p + 3) v) := by
  obtain ⟨h1, h2, h3, h4, h5, h6, h7, h8⟩ := h
  exact ⟨h1.up6 hv, h2.up6 hp, h3.fr (by rw [k_put_ne (by decide)]) (fun i a b => k_put_ne (by omega)), h4.fr (fun i a b => k_put_ne (by omega)) (fun j a => upd_ne (by omega)), h5.fr (k_put_ne (by decide)), h6.fr (k_put_ne (by decide)) (fun j a _ _ _ _ => upd_ne (by omega)),
    h7.fr (fun i a b => k_put_ne (by omega)) (fun j a => upd_ne (by omega)), h8.fr (fun i a => k_put_ne (by omega)) (fun j a b => upd_ne (by omega))⟩
theorem RW.up7 {σ : Sg} {row : Nat → Int32} {p q : Nat} {v : Int32} (h : RW σ row) (hp : p < 6) (hq : q < 28) (hv : k_lt v 10) : RW (k_put σ 7 (upd (σ 7) (p * 28 + q) v)) (upd row (10 + 32 * p + (4 + q)) v) := by
  obtain ⟨h1, h2, h3, h4, h5, h6, h7, h8⟩ := h
  refine ⟨⟨by rw [k_put_ne (by decide)]; exact h1.1, fun r hr => ?_⟩, ⟨by rw [upd_ne (by omega), k_put_ne (by decide)]; exact h2.1, fun r hr => ?_⟩, h3.fr (by rw [k_put_ne (by decide)]) (fun i a b => k_put_ne (by omega)), h4.fr (fun i a b => k_put_ne (by omega)) (fun j a => upd_ne (by omega)), h5.fr (k_put_ne (by decide)), h6.fr (k_put_ne (by decide)) (fun j a _ _ _ _ => upd_ne (by omega)),
    h7.fr (fun i a b => k_put_ne (by omega)) (fun j a => upd_ne (by omega)), h8.fr (fun i a => k_put_ne (by omega)) (fun j a b => upd_ne (by omega))⟩
  · obtain ⟨a1, a2⟩ := h1.2 r hr
    refine ⟨by rw [k_put_ne (by decide), k_put_ne (by decide), k_put_ne (by decide), k_put_ne (by decide)]; exact a1, fun e he => ?_⟩
    rw [k_put_at]
    by_cases z : r * 28 + e = p * 28 + q
    · rw [z, upd_at]; exact hv
    · rw [upd_ne z]; exact a2 e he
  · obtain ⟨⟨a1, a2, a3, a4⟩, a5⟩ := h2.2 r hr
    refine ⟨⟨?_, ?_, ?_, ?_⟩, fun e he => ?_⟩
    · rw [upd_ne (by omega), k_put_ne (by decide)]; exact a1
    · rw [upd_ne (by omega), k_put_ne (by decide)]; exact a2
    · rw [upd_ne (by omega), k_put_ne (by decide)]; exact a3
    · rw [upd_ne (by omega), k_put_ne (by decide)]; exact a4
    · rw [k_put_at]
      by_cases z : r * 28 + e = p * 28 + q
      · have z2 : r = p ∧ e = q := by omega
        rw [z2.1, z2.2, upd_at, upd_at]
      · rw [upd_ne z, upd_ne (by omega)]; exact a5 e he

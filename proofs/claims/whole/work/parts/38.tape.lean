/-! promises 14, 16, 38, 39, 40: the tape, what waits, counts -/
/-- how many promises aren't kept, of the first k -/
noncomputable def unkF (σ : Sg) : Nat → Nat
  | 0 => 0
  | k + 1 => unkF σ k + @ite Nat (keptF σ k) (Classical.propDecidable _) 0 1
theorem unkF_le (σ : Sg) : ∀ k, unkF σ k ≤ k
  | 0 => Nat.le_refl _
  | k + 1 => by
    have := unkF_le σ k
    simp only [unkF]
    split <;> omega
theorem RB.tell {σ : Sg} {row : Nat → Int32} {n : Nat} {v : Int32} (h : RW σ row) (hn : σ 22 1 = nI n) (hl : n < 24) : RW (k_put (k_put σ 23 (upd (σ 23) n v)) 22 (upd (σ 22) 1 (nI (n + 1)))) (upd (upd row (286 + n) v) 9 (nI (n + 1))) := by
  obtain ⟨h1, h2, h3, h4, h5, h6, h7, h8⟩ := h
  have ecl : cl (σ 22 1) = n := by rw [hn]; exact nI_clamp (by omega)
  refine ⟨h1.fr (fun i a b => by rw [k_put_ne (by omega), k_put_ne (by omega)]), h2.fr (fun i a b => by rw [k_put_ne (by omega), k_put_ne (by omega)]) (fun j a => by rw [upd_ne (by omega), upd_ne (by omega)]), h3.fr rfl (fun i a b => by rw [k_put_ne (by omega), k_put_ne (by omega)]), h4.fr (fun i a b => by rw [k_put_ne (by omega), k_put_ne (by omega)]) (fun j a => by rw [upd_ne (by omega), upd_ne (by omega)]),
    h5.fr rfl, h6.fr rfl (fun j a b c e f => by rw [upd_ne (by omega), upd_ne (by omega)]), ⟨⟨h7.1.1, ?_, fun j hj => ?_⟩, ⟨?_, ?_, fun j hj => ?_⟩⟩, h8.fr (fun i a => by rw [k_put_ne (by omega), k_put_ne (by omega)]) (fun j a b => by rw [upd_ne (by omega), upd_ne (by omega)])⟩
  · rw [upd_ne (by omega), upd_ne (by omega)]; exact h7.1.2.1
  · have hj : j < cl (σ 20 1) := hj
    have := (cl_lt h7.1.1 (by decide)).1
    rw [upd_ne (by omega), upd_ne (by omega)]; exact h7.1.2.2 j hj
  · rw [k_put_at, upd_at]; exact ⟨n + 1, by omega, rfl⟩
  · rw [k_put_at, upd_at, upd_at]
  · rw [k_put_at, upd_at] at hj
    have e : cl (nI (n + 1)) = n + 1 := nI_clamp (by omega)
    rw [e] at hj
    rw [k_put_ne (by decide), k_put_at, upd_ne (by omega)]
    by_cases ej : j = n
    · subst ej; rw [upd_at, upd_at]
    · rw [upd_ne ej, upd_ne (by omega)]; exact h7.2.2.2 j (by omega)
theorem RB.feed {σ : Sg} {row : Nat → Int32} {n : Nat} {v : Int32} (h : RW σ row) (hn : σ 20 1 = nI n) (hl : n < 60) : RW (k_put (k_put σ 21 (upd (σ 21) n v)) 20 (upd (σ 20) 1 (nI (n + 1)))) (upd (upd row (226 + n) v) 8 (nI (n + 1))) := by
  obtain ⟨h1, h2, h3, h4, h5, h6, h7, h8⟩ := h
  have ecl : cl (σ 20 1) = n := by rw [hn]; exact nI_clamp (by omega)
  refine ⟨h1.fr (fun i a b => by rw [k_put_ne (by omega), k_put_ne (by omega)]), h2.fr (fun i a b => by rw [k_put_ne (by omega), k_put_ne (by omega)]) (fun j a => by rw [upd_ne (by omega), upd_ne (by omega)]), h3.fr rfl (fun i a b => by rw [k_put_ne (by omega), k_put_ne (by omega)]), h4.fr (fun i a b => by rw [k_put_ne (by omega), k_put_ne (by omega)]) (fun j a => by rw [upd_ne (by omega), upd_ne (by omega)]),
    h5.fr rfl, h6.fr rfl (fun j a b c e f => by rw [upd_ne (by omega), upd_ne (by omega)]), ⟨⟨?_, ?_, fun j hj => ?_⟩, ⟨h7.2.1, ?_, fun j hj => ?_⟩⟩, h8.fr (fun i a => by rw [k_put_ne (by omega), k_put_ne (by omega)]) (fun j a b => by rw [upd_ne (by omega), upd_ne (by omega)])⟩
  · rw [k_put_at, upd_at]; exact ⟨n + 1, by omega, rfl⟩
  · rw [k_put_at, upd_at, upd_at]
  · rw [k_put_at, upd_at] at hj
    have e : cl (nI (n + 1)) = n + 1 := nI_clamp (by omega)
    rw [e] at hj
    rw [k_put_ne (by decide), k_put_at, upd_ne (by omega)]
    by_cases ej : j = n
    · subst ej; rw [upd_at, upd_at]
    · rw [upd_ne ej, upd_ne (by omega)]; exact h7.1.2.2 j (by omega)
  · rw [upd_ne (by omega), upd_ne (by omega)]; exact h7.2.2.1
  · have hj : j < cl (σ 22 1) := hj
    have := (cl_lt h7.2.1 (by decide)).1
    rw [upd_ne (by omega), upd_ne (by omega)]; exact h7.2.2.2 j hj
/-- fewer wait, fewer bytes: a size becomes 0 -/
theorem RW.zero22 {σ : Sg} {row : Nat → Int32} (h : RW σ row) : RW (k_put σ 22 (upd (σ 22) 1 (nI 0))) (upd row 9 (nI 0)) := by
  obtain ⟨h1, h2, h3, h4, h5, h6, h7, h8⟩ := h
  refine ⟨h1.fr (fun i a b => k_put_ne (by omega)), h2.fr (fun i a b => k_put_ne (by omega)) (fun j a => upd_ne (by omega)), h3.fr rfl (fun i a b => k_put_ne (by omega)), h4.fr (fun i a b => k_put_ne (by omega)) (fun j a => upd_ne (by omega)),
    h5.fr rfl, h6.fr rfl (fun j a b c e f => upd_ne (by omega)), ⟨⟨h7.1.1, ?_, fun j hj => ?_⟩, ⟨⟨0, by decide, rfl⟩, rfl, fun j hj => absurd hj (Nat.not_lt_zero j)⟩⟩, h8.fr (fun i a => k_put_ne (by omega)) (fun j a b => upd_ne (by omega))⟩
  · rw [upd_ne (by omega)]; exact h7.1.2.1
  · have hj : j < cl (σ 20 1) := hj
    have := (cl_lt h7.1.1 (by decide)).1
    rw [upd_ne (by omega)]; exact h7.1.2.2 j hj
theorem RW.zero20 {σ : Sg} {row : Nat → Int32} (h : RW σ row) : RW (k_put σ 20 (upd (σ 20) 1 (nI 0))) (upd row 8 (nI 0)) := by
  obtain ⟨h1, h2, h3, h4, h5, h6, h7, h8⟩ := h
  refine ⟨h1.fr (fun i a b => k_put_ne (by omega)), h2.fr (fun i a b => k_put_ne (by omega)) (fun j a => upd_ne (by omega)), h3.fr rfl (fun i a b => k_put_ne (by omega)), h4.fr (fun i a b => k_put_ne (by omega)) (fun j a => upd_ne (by omega)),
    h5.fr rfl, h6.fr rfl (fun j a b c e f => upd_ne (by omega)), ⟨⟨⟨0, by decide, rfl⟩, rfl, fun j hj => absurd hj (Nat.not_lt_zero j)⟩, ⟨h7.2.1, ?_, fun j hj => ?_⟩⟩, h8.fr (fun i a => k_put_ne (by omega)) (fun j a b => upd_ne (by omega))⟩
  · rw [upd_ne (by omega)]; exact h7.2.2.1
  · have hj : j < cl (σ 22 1) := hj
    have := (cl_lt h7.2.1 (by decide)).1
    rw [upd_ne (by omega)]; exact h7.2.2.2 j hj
/-- no text any more -/
theorem RT.none {f row : Nat → Int32} {at_ : Nat} : RT (nI 0) f (upd row at_ (nI 0)) at_ := ⟨⟨0, by decide, rfl⟩, upd_at, fun j hj => absurd hj (Nat.not_lt_zero j), fun k hk => absurd hk (Nat.not_lt_zero k)⟩
theorem RW.text {σ σ' : Sg} {row row' : Nat → Int32} (h : RW σ row) (e : ∀ i, i ≠ 13 → i ≠ 14 → i ≠ 17 → i ≠ 18 → σ' i = σ i) (er : ∀ j, j < 310 → row' j = row j) (hx : RX σ' row') : RW σ' row' := by
  obtain ⟨h1, h2, h3, h4, h5, h6, h7, h8⟩ := h
  exact ⟨h1.fr (fun i a b => e i (by omega) (by omega) (by omega) (by omega)), h2.fr (fun i a b => e i (by omega) (by omega) (by omega) (by omega)) (fun j a => er j (by omega)), h3.fr (by rw [e 2 (by decide) (by decide) (by decide) (by decide)]) (fun i a b => e i (by omega) (by omega) (by omega) (by omega)), h4.fr (fun i a b => e i (by omega) (by omega) (by omega) (by omega)) (fun j a => er j (by omega)),
    h5.fr (e 1 (by decide) (by decide) (by decide) (by decide)), h6.fr (e 1 (by decide) (by decide) (by decide) (by decide)) (fun j a b c e f => er j (by omega)), h7.fr (fun i a b => e i (by omega) (by omega) (by omega) (by omega)) (fun j a => er j (by omega)), hx⟩
section P38
variable {E E' : KE} {S : Shp} {d d' : Nat} {x1 x2 x3 : Int32} {w1 : Int64} {σ τ : Sg} {Z : Int32 → Int32 → Sg → Sg → Prop} {K : Int32 → Sg → Prop}
theorem T_howManyUnkept (hA : IvA σ) (hQ : IvQ σ) (h : K (nI (unkF σ (nQ σ))) σ) : CallI E shC (d + 4) mX2_howManyUnkept [.ref 8, .ref 2] σ K := by
  have hq := nQ_le hQ
  have e8 : σ 8 3 = nI (nQ σ) := (cl_lt hQ.1 (by decide)).2
  refine vc_Promises_howManyUnkept ?_
  have loop : ∀ r k, k + r = nQ σ → WP E shC mX2_howManyUnkept (d + 3 + 1) 4 [some (.ref 8), some (.ref 2), some (.int (nI (unkF σ k))), some (.int (nI k))] [] σ (k_qi K) := by
    intro r
    induction r with
    | zero =>
      intro k hk
      have e : k = nQ σ := by omega
      apply vb_Promises_howManyUnkept_4
      rw [e8]
      refine ⟨fun _ => by rw [e]; exact h, fun q => absurd (by rw [e]; exact Int32.le_refl _) q⟩
    | succ r ih =>
      intro k hk
      have ih := ih (k + 1) (by omega)
      simp only [unkF] at ih
      apply vb_Promises_howManyUnkept_4
      rw [e8]
      simp (disch := omega) only [nI_clamp, nI_add, pk_mul, pk_sub, ↓pk_rem, pk_div, k_mod, k_m1, nI_ltI, nI_leI, nI_eq, k_n0lt, k_nle0, k_0ltn, k_0len, k_n0eq, k_vin, Nat.reduceAdd, Nat.reduceMul, Nat.reduceLT, Nat.reduceLeDiff, Nat.reduceSub, Nat.reduceEqDiff, Nat.zero_add, Nat.add_zero]
      refine ⟨fun q => absurd q (by omega), fun _ => T_isKept hA hQ (by omega) (k_ifn (fun q => ?_) (fun q => ?_))⟩
      · rw [if_pos q] at ih; exact ih
      · rw [if_neg q] at ih; exact ih
  exact loop (nQ σ) 0 (by omega)
theorem T_notKept (hW : RW σ (τ 1)) (h : K (nI (unkF σ (nQ σ))) τ) : CallI E shR (d + 4) mX11_notKept [.ref 0] τ K := by
  have hq := nQ_le hW.q
  have e8 : σ 8 3 = nI (nQ σ) := (cl_lt hW.q.1 (by decide)).2
  have e3 : τ 1 3 = nI (nQ σ) := hW.rq.1.trans e8
  refine vc_Md_notKept ?_
  have loop : ∀ r k, k + r = nQ σ → WP E shR mX11_notKept (d + 3 + 1) 4 [some (.ref 0), some (.int (nI (unkF σ k))), some (.int (nI k))] [] τ (k_qi K) := by
    intro r
    induction r with
    | zero =>
      intro k hk
      have e : k = nQ σ := by omega
      apply vb_Md_notKept_4
      simp (disch := omega) only [nI_clamp, nI_add, pk_mul, pk_sub, ↓pk_rem, pk_div, k_mod, k_m1, nI_ltI, nI_leI, nI_eq, k_n0lt, k_nle0, k_0ltn, k_0len, k_n0eq, k_vin, Nat.reduceAdd, Nat.reduceMul, Nat.reduceLT, Nat.reduceLeDiff, Nat.reduceSub, Nat.reduceEqDiff, Nat.zero_add, Nat.add_zero, e3]
      refine ⟨trivial, fun _ => by rw [e]; exact h, fun q => absurd (by omega) q⟩
    | succ r ih =>
      intro k hk
      have ih := ih (k + 1) (by omega)
      simp only [unkF] at ih
      apply vb_Md_notKept_4
      simp (disch := omega) only [nI_clamp, nI_add, pk_mul, pk_sub, ↓pk_rem, pk_div, k_mod, k_m1, nI_ltI, nI_leI, nI_eq, k_n0lt, k_nle0, k_0ltn, k_0len, k_n0eq, k_vin, Nat.reduceAdd, Nat.reduceMul, Nat.reduceLT, Nat.reduceLeDiff, Nat.reduceSub, Nat.reduceEqDiff, Nat.zero_add, Nat.add_zero, e3]
      refine ⟨trivial, fun q => absurd q (by omega), fun _ => T_MisKept hW (by omega) (k_if (fun q => ?_) (fun q => ?_))⟩
      · rw [if_neg q] at ih; exact ih
      · rw [if_pos q] at ih; exact ih
  exact loop (nQ σ) 0 (by omega)
theorem P_count (hR : RR σ τ) (h : ∀ v σ' τ', RR σ' τ' → Z v v σ' τ') : CallI E shC (d + 5) mX10_count [.ref 0, .int x1] σ (fun v σ' => CallI E' shR (d' + 5) mX11_count [.ref 0, .int x1] τ (fun w τ' => Z v w σ' τ')) := by
  obtain ⟨r1, r2, r3, r4, r5, r6⟩ := hR.rw.rc
  have ra := hR.rw.ra.1
  have rq := hR.rw.rq.1
  have rb1 := hR.rw.b.1.2.1
  have rb2 := hR.rw.b.2.2.1
  have rv := hR.2.2.2.2.1.2
  have ne : ∀ {a b : Nat}, a < 20 → b < 20 → nI a = nI b → a ≠ b → ∀ {P : Prop}, P := fun ha hb e n => absurd ((nI_eq (by omega) (by omega)).mp e) n
  refine vc_SD_count ⟨fun q => ?_, fun q => ?_, fun q => ?_, fun q => ?_, fun q => ?_, fun q => ?_, fun q => ?_, fun q => ?_, fun q => ?_, fun q => ?_, fun q => ?_, fun q => ?_, fun q0 q1 q2 q3 q4 q5 q6 q7 q8 q9 q10 q11 => T_err (by decide) ?_⟩
  rotate_left 12
  · exact vc_Md_count ⟨fun z => absurd z q0, fun z => absurd z q1, fun z => absurd z q2, fun z => absurd z q3, fun z => absurd z q4, fun z => absurd z q5, fun z => absurd z q6, fun z => absurd z q7, fun z => absurd z q8, fun z => absurd z q9, fun z => absurd z q10, fun z => absurd z q11, fun _ _ _ _ _ _ _ _ _ _ _ _ => T_Merr1 (h _ _ _ (hR.err (by decide)))⟩
  all_goals subst q
  rotate_left 7
  · refine T_howManyUnkept hR.rw.a hR.rw.q (vc_Md_count ?_)
    simp (disch := omega) only [nI_clamp, nI_add, pk_mul, pk_sub, ↓pk_rem, pk_div, k_mod, k_m1, nI_ltI, nI_leI, nI_eq, k_n0lt, k_nle0, k_0ltn, k_0len, k_n0eq, k_vin, Nat.reduceAdd, Nat.reduceMul, Nat.reduceLT, Nat.reduceLeDiff, Nat.reduceSub, Nat.reduceEqDiff, Nat.zero_add, Nat.add_zero]
    refine ⟨fun z => absurd z (by decide), fun z => absurd z (by decide), fun z => absurd z (by decide), fun z => absurd z (by decide), fun z => absurd z (by decide), fun z => absurd z (by decide), fun z => absurd z (by decide), fun _ => T_notKept hR.rw (h _ _ _ hR), fun z => absurd z (by decide), fun z => absurd z (by decide), fun z => absurd z (by decide), fun z => absurd z (by decide), fun _ _ _ _ _ _ _ z _ _ _ _ => by first | exact absurd rfl z | exact absurd trivial z⟩
  all_goals
    refine vc_Md_count ?_
    simp (disch := omega) only [nI_clamp, nI_add, pk_mul, pk_sub, ↓pk_rem, pk_div, k_mod, k_m1, nI_ltI, nI_leI, nI_eq, k_n0lt, k_nle0, k_0ltn, k_0len, k_n0eq, k_vin, Nat.reduceAdd, Nat.reduceMul, Nat.reduceLT, Nat.reduceLeDiff, Nat.reduceSub, Nat.reduceEqDiff, Nat.zero_add, Nat.add_zero, r1, r2, r3, r4, r5, r6, ra, rq, rb1, rb2, rv]
    refine ⟨fun z => ?_, fun z => ?_, fun z => ?_, fun z => ?_, fun z => ?_, fun z => ?_, fun z => ?_, fun z => ?_, fun z => ?_, fun z => ?_, fun z => ?_, fun z => ?_, fun z0 z1 z2 z3 z4 z5 z6 z7 z8 z9 z10 z11 => ?_⟩
    all_goals first
      | exact absurd z (by decide)
      | exact ⟨trivial, h _ _ _ hR⟩
      | exact h _ _ _ hR
      | (exfalso; first | exact z0 rfl | exact z1 rfl | exact z2 rfl | exact z3 rfl | exact z4 rfl | exact z5 rfl | exact z6 rfl | exact z7 rfl | exact z8 rfl | exact z9 rfl | exact z10 rfl | exact z11 rfl | exact z0 trivial | exact z1 trivial | exact z2 trivial | exact z3 trivial | exact z4 trivial | exact z5 trivial | exact z6 trivial | exact z8 trivial | exact z9 trivial | exact z10 trivial | exact z11 trivial)
theorem P_tell (hR : RR σ τ) (h : ∀ v σ' τ', RR σ' τ' → Z v v σ' τ') : CallI E shC (d + 1) mX10_tell [.ref 0, .int x1] σ (fun v σ' => CallI E' shR (d' + 1) mX11_tell [.ref 0, .int x1] τ (fun w τ' => Z v w σ' τ')) := by
  obtain ⟨n, hn, e⟩ := hR.rw.b.2.1
  have e9 : τ 1 9 = nI n := hR.rw.b.2.2.1.trans e
  refine vc_SD_tell ?_
  rw [e]
  simp (disch := omega) only [nI_clamp, nI_add, pk_mul, pk_sub, ↓pk_rem, pk_div, k_mod, k_m1, nI_ltI, nI_leI, nI_eq, k_n0lt, k_nle0, k_0ltn, k_0len, k_n0eq, k_vin, Nat.reduceAdd, Nat.reduceMul, Nat.reduceLT, Nat.reduceLeDiff, Nat.reduceSub, Nat.reduceEqDiff, Nat.zero_add, Nat.add_zero]
  refine ⟨fun q => vc_Row_add_22 ?_, fun q => T_err (by decide) (vc_Md_tell ?_)⟩
  · rw [e]
    simp (disch := omega) only [nI_clamp, nI_add, pk_mul, pk_sub, ↓pk_rem, pk_div, k_mod, k_m1, nI_ltI, nI_leI, nI_eq, k_n0lt, k_nle0, k_0ltn, k_0len, k_n0eq, k_vin, Nat.reduceAdd, Nat.reduceMul, Nat.reduceLT, Nat.reduceLeDiff, Nat.reduceSub, Nat.reduceEqDiff, Nat.zero_add, Nat.add_zero]
    refine ⟨fun z => absurd z (by omega), fun _ => ⟨trivial, ?_⟩⟩
    rintro _ rfl
    rintro _ rfl
    simp only [k_put_at, k_put_ne (by decide : (22 : Nat) ≠ 23), e]
    simp (disch := omega) only [nI_clamp, nI_add, pk_mul, pk_sub, ↓pk_rem, pk_div, k_mod, k_m1, nI_ltI, nI_leI, nI_eq, k_n0lt, k_nle0, k_0ltn, k_0len, k_n0eq, k_vin, Nat.reduceAdd, Nat.reduceMul, Nat.reduceLT, Nat.reduceLeDiff, Nat.reduceSub, Nat.reduceEqDiff, Nat.zero_add, Nat.add_zero, upd_at]
    refine vc_Md_tell ?_
    simp (disch := omega) only [nI_clamp, nI_add, pk_mul, pk_sub, ↓pk_rem, pk_div, k_mod, k_m1, nI_ltI, nI_leI, nI_eq, k_n0lt, k_nle0, k_0ltn, k_0len, k_n0eq, k_vin, Nat.reduceAdd, Nat.reduceMul, Nat.reduceLT, Nat.reduceLeDiff, Nat.reduceSub, Nat.reduceEqDiff, Nat.zero_add, Nat.add_zero, e9]
    refine ⟨trivial, fun _ => ⟨trivial, trivial, ?_⟩, fun z => absurd z (by omega)⟩
    rintro _ rfl
    refine ⟨trivial, trivial, ?_⟩
    rintro _ rfl
    simp only [k_put_put, k_put_at, upd_at, upd_ne (show (9 : Nat) ≠ 286 + n by omega), e9]
    simp (disch := omega) only [nI_clamp, nI_add, pk_mul, pk_sub, ↓pk_rem, pk_div, k_mod, k_m1, nI_ltI, nI_leI, nI_eq, k_n0lt, k_nle0, k_0ltn, k_0len, k_n0eq, k_vin, Nat.reduceAdd, Nat.reduceMul, Nat.reduceLT, Nat.reduceLeDiff, Nat.reduceSub, Nat.reduceEqDiff, Nat.zero_add, Nat.add_zero]
    exact ⟨trivial, h _ _ _ (hR.now (RB.tell hR.rw e q) hR.1.2 (fun i hi => by rw [k_put_ne (by omega), k_put_ne (by omega)]))⟩
  · simp (disch := omega) only [nI_clamp, nI_add, pk_mul, pk_sub, ↓pk_rem, pk_div, k_mod, k_m1, nI_ltI, nI_leI, nI_eq, k_n0lt, k_nle0, k_0ltn, k_0len, k_n0eq, k_vin, Nat.reduceAdd, Nat.reduceMul, Nat.reduceLT, Nat.reduceLeDiff, Nat.reduceSub, Nat.reduceEqDiff, Nat.zero_add, Nat.add_zero, e9]
    exact ⟨trivial, fun z => absurd (by omega) z, fun _ => T_Merr4 (h _ _ _ (hR.err (by decide)))⟩
theorem P_check (hR : RR σ τ) (h : ∀ v σ' τ', RR σ' τ' → Z v v σ' τ') : CallI E shC (d + 1) mX10_check [.ref 0] σ (fun v σ' => CallI E' shR (d' + 2) mX11_check [.ref 0] τ (fun w τ' => Z v w σ' τ')) := by
  obtain ⟨n, hn, e⟩ := hR.rw.b.2.1
  have e9 : τ 1 9 = nI n := hR.rw.b.2.2.1.trans e
  have hwt := hR.rw.b.2.2.2
  have ecl : cl (σ 22 1) = n := by rw [e]; exact nI_clamp (by omega)
  rw [ecl] at hwt
  have hA := hR.rw.a
  have hP := nP_le hA
  refine vc_SD_check ?_
  rw [e]
  rintro _ rfl
  have hR1 : RR (k_put σ 22 (upd (σ 22) 1 (nI 0))) (k_put τ 1 (upd (τ 1) 9 (nI 0))) := hR.now hR.rw.zero22 hR.1.2 (fun i hi => k_put_ne (by omega))
  have c5 : ∀ j, (k_put σ 22 (upd (σ 22) 1 (nI 0))) 5 j = σ 5 j := fun j => by rw [k_put_ne (by decide)]
  have c23 : ∀ j, (k_put σ 22 (upd (σ 22) 1 (nI 0))) 23 j = σ 23 j := fun j => by rw [k_put_ne (by decide)]
  have t1 : ∀ j, j < n → (k_put τ 1 (upd (τ 1) 9 (nI 0))) 1 (286 + j) = σ 23 j := fun j hj => by rw [k_put_at, upd_ne (by omega)]; exact hwt j hj
  have eP : nP (k_put σ 22 (upd (σ 22) 1 (nI 0))) = nP σ := rfl
  generalize k_put σ 22 (upd (σ 22) 1 (nI 0)) = σ1 at hR1 c5 c23 eP
  have key : ∀ (r i : Nat), i + r = n → ∀ τ0, τ0 = k_put τ 1 (upd (τ 1) 9 (nI 0)) →
      WP E shC mX10_check (d + 1) 24 [some (.ref 0), some (.int (nI n)), some (.int (nI i))] [] σ1 (k_qi fun v σ' => WP E' shR mX11_check (d' + 1 + 1) 18 [some (.ref 0), some (.int (nI n)), some (.int (nI i))] [] τ0 (k_qi fun w τ' => Z v w σ' τ')) := by
    intro r
    induction r with
    | zero =>
      intro i hi τ0 e0
      have ei : i = n := by omega
      subst ei
      apply vb_SD_check_24
      refine ⟨fun _ => ?_, fun q => absurd (Int32.le_refl _) q⟩
      apply vb_Md_check_18
      subst e0
      exact ⟨fun _ => h _ _ _ hR1, fun q => absurd (Int32.le_refl _) q⟩
    | succ r ih =>
      intro i hi τ0 e0
      have ih := ih (i + 1) (by omega) τ0 e0
      subst e0
      apply vb_SD_check_24
      simp (disch := omega) only [nI_clamp, nI_add, pk_mul, pk_sub, ↓pk_rem, pk_div, k_mod, k_m1, nI_ltI, nI_leI, nI_eq, k_n0lt, k_nle0, k_0ltn, k_0len, k_n0eq, k_vin, Nat.reduceAdd, Nat.reduceMul, Nat.reduceLT, Nat.reduceLeDiff, Nat.reduceSub, Nat.reduceEqDiff, Nat.zero_add, Nat.add_zero]
      refine ⟨fun q => absurd q (by omega), fun _ => T_knows hR1.rw.a (k_if (fun q => ?_) (fun q => ⟨?_, ?_, fun q2 => ?_, fun q2 => ?_⟩))⟩
      · apply vb_Md_check_18
        simp (disch := omega) only [nI_clamp, nI_add, pk_mul, pk_sub, ↓pk_rem, pk_div, k_mod, k_m1, nI_ltI, nI_leI, nI_eq, k_n0lt, k_nle0, k_0ltn, k_0len, k_n0eq, k_vin, Nat.reduceAdd, Nat.reduceMul, Nat.reduceLT, Nat.reduceLeDiff, Nat.reduceSub, Nat.reduceEqDiff, Nat.zero_add, Nat.add_zero]
        exact ⟨fun q => absurd q (by omega), fun _ => T_isPerson hR1.rw.a hR1.rw.ra (k_ifF q (h _ _ _ hR1))⟩
      · rw [k_lt_nI (by omega) (by omega), eP] at q
        first | exact trivial | exact vp_in_nI (by omega) (by decide)
      · first | exact trivial | exact vp_in_nI (by omega) (by decide)
      · refine WP.monoI ih (fun v σ' hk => ?_)
        apply vb_Md_check_18
        have q' := q
        rw [k_lt_nI (by omega) (by omega), eP] at q'
        simp (disch := omega) only [nI_clamp, nI_add, pk_mul, pk_sub, ↓pk_rem, pk_div, k_mod, k_m1, nI_ltI, nI_leI, nI_eq, k_n0lt, k_nle0, k_0ltn, k_0len, k_n0eq, k_vin, Nat.reduceAdd, Nat.reduceMul, Nat.reduceLT, Nat.reduceLeDiff, Nat.reduceSub, Nat.reduceEqDiff, Nat.zero_add, Nat.add_zero]
        refine ⟨fun q => absurd q (by omega), fun _ => T_isPerson hR1.rw.a hR1.rw.ra (k_ifT q ⟨by first | exact trivial | exact vp_in_nI (by omega) (by decide), T_Mof (by omega) (by decide) ?_⟩)⟩
        have ea : (k_put τ 1 (upd (τ 1) 9 (nI 0))) 1 (10 + 32 * i + 2) = σ 5 i := by rw [(hR1.rw.ra.2 i (by omega)).1.2.2.1, c5]
        rw [ea, t1 i (by omega)]
        rw [c5, c23] at q2
        exact ⟨fun _ => hk, fun z => absurd q2.symm z⟩
      · apply vb_Md_check_18
        have q' := q
        rw [k_lt_nI (by omega) (by omega), eP] at q'
        simp (disch := omega) only [nI_clamp, nI_add, pk_mul, pk_sub, ↓pk_rem, pk_div, k_mod, k_m1, nI_ltI, nI_leI, nI_eq, k_n0lt, k_nle0, k_0ltn, k_0len, k_n0eq, k_vin, Nat.reduceAdd, Nat.reduceMul, Nat.reduceLT, Nat.reduceLeDiff, Nat.reduceSub, Nat.reduceEqDiff, Nat.zero_add, Nat.add_zero]
        refine ⟨fun q => absurd q (by omega), fun _ => T_isPerson hR1.rw.a hR1.rw.ra (k_ifT q ⟨by first | exact trivial | exact vp_in_nI (by omega) (by decide), T_Mof (by omega) (by decide) ?_⟩)⟩
        have ea : (k_put τ 1 (upd (τ 1) 9 (nI 0))) 1 (10 + 32 * i + 2) = σ 5 i := by rw [(hR1.rw.ra.2 i (by omega)).1.2.2.1, c5]
        rw [ea, t1 i (by omega)]
        rw [c5, c23] at q2
        exact ⟨fun z => absurd z.symm q2, fun _ => h _ _ _ hR1⟩
  refine WP.monoI (key n 0 (by omega) _ rfl) (fun v σ' hk => vc_Md_check ?_)
  simp (disch := omega) only [nI_clamp, nI_add, pk_mul, pk_sub, ↓pk_rem, pk_div, k_mod, k_m1, nI_ltI, nI_leI, nI_eq, k_n0lt, k_nle0, k_0ltn, k_0len, k_n0eq, k_vin, Nat.reduceAdd, Nat.reduceMul, Nat.reduceLT, Nat.reduceLeDiff, Nat.reduceSub, Nat.reduceEqDiff, Nat.zero_add, Nat.add_zero, e9]
  refine ⟨trivial, trivial, ?_⟩
  rintro _ rfl
  exact hk
/-- a byte of a word -/
theorem byte_key (w : Int64) (a : UInt64) (b : Int64) (s : Nat) (hs : s ≤ 56) (ha : (a.toBitVec % 64).toNat = s) (hb : (b.toBitVec.smod 64).toNat = s) : (((w.toUInt64 >>> a).toInt64).toInt32 &&& nI 255) = ((w >>> b) &&& (lN 255)).toInt32 := by
  have b1 : ∀ i, i < 32 → (nI 255).toBitVec.getLsbD i = decide (i < 8) := by decide
  rw [Int64.toInt32_and, show (lN 255).toInt32 = nI 255 by decide]
  apply Int32.toBitVec_inj.mp
  apply BitVec.eq_of_getLsbD_eq
  intro i hi
  rw [Int32.toBitVec_and, Int32.toBitVec_and, BitVec.getLsbD_and, BitVec.getLsbD_and, b1 i hi]
  by_cases h8 : i < 8
  · congr 1
    rw [Int64.toBitVec_toInt32, Int64.toBitVec_toInt32, UInt64.toBitVec_toInt64, UInt64.toBitVec_shiftRight, Int64.toBitVec_shiftRight, BitVec.getLsbD_signExtend, BitVec.getLsbD_signExtend, BitVec.getLsbD_sshiftRight']
    have hb' : BitVec.toNat (b.toBitVec.smod 64) = s := hb
    have ha' : BitVec.toNat (a.toBitVec % 64) = s := ha
    rw [show (w.toUInt64.toBitVec >>> (a.toBitVec % 64)).getLsbD i = w.toBitVec.getLsbD (s + i) from by
      rw [BitVec.ushiftRight_eq', BitVec.getLsbD_ushiftRight, ha']; rfl]
    rw [hb']
    simp [show i < 64 by omega, show s + i < 64 by omega, show ¬ 64 ≤ i by omega]
  · simp [h8]
theorem byte_eq (w : Int64) (k : Nat) (hk : k < 8) : ((((w.toUInt64 >>> (((nI 8) * nI k).toInt64.toUInt64 &&& Int64.toUInt64 63)).toInt64).toInt32) &&& (nI 255)) = ((w >>> (((nI 8) * nI k).toInt64 &&& 63)) &&& (lN 255)).toInt32 := by
  have c : k = 0 ∨ k = 1 ∨ k = 2 ∨ k = 3 ∨ k = 4 ∨ k = 5 ∨ k = 6 ∨ k = 7 := by omega
  rcases c with rfl | rfl | rfl | rfl | rfl | rfl | rfl | rfl
  · exact byte_key w _ _ 0 (by decide) (by decide) (by decide)
  · exact byte_key w _ _ 8 (by decide) (by decide) (by decide)
  · exact byte_key w _ _ 16 (by decide) (by decide) (by decide)
  · exact byte_key w _ _ 24 (by decide) (by decide) (by decide)
  · exact byte_key w _ _ 32 (by decide) (by decide) (by decide)
  · exact byte_key w _ _ 40 (by decide) (by decide) (by decide)
  · exact byte_key w _ _ 48 (by decide) (by decide) (by decide)
  · exact byte_key w _ _ 56 (by decide) (by decide) (by decide)
theorem P_feed (hR : RR σ τ) (h : ∀ v σ' τ', RR σ' τ' → Z v v σ' τ') : CallI E shC (d + 1) mX10_feed [.ref 0, .long w1, .int x3] σ (fun v σ' => CallI E' shR (d' + 1) mX11_feed [.ref 0, .long w1, .int x3] τ (fun w τ' => Z v w σ' τ')) := by
  obtain ⟨n, hn, e⟩ := hR.rw.b.1.1
  have e8 : τ 1 8 = nI n := hR.rw.b.1.2.1.trans e
  refine vc_SD_feed (T_isWithin (k_ifn (fun q => ?_) (fun q => T_err (by decide) ?_)))
  rotate_left
  · exact vc_Md_feed (T_in (k_ifnF q (T_Merr1 (h _ _ _ (hR.err (by decide))))))
  obtain ⟨m, hm1, hm2, rfl⟩ := (k_wi (by decide) (by decide)).mp q
  rw [e]
  simp (disch := omega) only [nI_clamp, nI_add, pk_mul, pk_sub, ↓pk_rem, pk_div, k_mod, k_m1, nI_ltI, nI_leI, nI_eq, k_n0lt, k_nle0, k_0ltn, k_0len, k_n0eq, k_vin, Nat.reduceAdd, Nat.reduceMul, Nat.reduceLT, Nat.reduceLeDiff, Nat.reduceSub, Nat.reduceEqDiff, Nat.zero_add, Nat.add_zero]
  refine ⟨fun q2 => ?_, fun q2 => T_err (by decide) (vc_Md_feed (T_in (k_ifnT q ?_)))⟩
  rotate_left
  · simp (disch := omega) only [nI_clamp, nI_add, pk_mul, pk_sub, ↓pk_rem, pk_div, k_mod, k_m1, nI_ltI, nI_leI, nI_eq, k_n0lt, k_nle0, k_0ltn, k_0len, k_n0eq, k_vin, Nat.reduceAdd, Nat.reduceMul, Nat.reduceLT, Nat.reduceLeDiff, Nat.reduceSub, Nat.reduceEqDiff, Nat.zero_add, Nat.add_zero, e8]
    exact ⟨trivial, fun z => absurd z (by omega), fun _ => T_Merr4 (h _ _ _ (hR.err (by decide)))⟩
  have key : ∀ (r i l : Nat), i + r = m → l + r ≤ 60 → ∀ σ1 τ1, RR σ1 τ1 → σ1 20 1 = nI l →
      WP E shC mX10_feed (d + 1) 42 [some (.ref 0), some (.long w1), none, some (.int (nI m)), some (.int (nI i))] [] σ1 (k_qi fun v σ' => WP E' shR mX11_feed (d' + 1) 41 [some (.ref 0), some (.long w1), none, some (.int (nI m)), some (.int (nI i))] [] τ1 (k_qi fun w τ' => Z v w σ' τ')) := by
    intro r
    induction r with
    | zero =>
      intro i l hi hl σ1 τ1 hR1 e1
      have ei : i = m := by omega
      subst ei
      apply vb_SD_feed_42
      refine ⟨fun _ => ?_, fun q => absurd (Int32.le_refl _) q⟩
      apply vb_Md_feed_41
      simp (disch := omega) only [nI_clamp, nI_add, pk_mul, pk_sub, ↓pk_rem, pk_div, k_mod, k_m1, nI_ltI, nI_leI, nI_eq, k_n0lt, k_nle0, k_0ltn, k_0len, k_n0eq, k_vin, Nat.reduceAdd, Nat.reduceMul, Nat.reduceLT, Nat.reduceLeDiff, Nat.reduceSub, Nat.reduceEqDiff, Nat.zero_add, Nat.add_zero, hR1.rw.b.1.2.1]
      exact ⟨fun _ => ⟨trivial, h _ _ _ hR1⟩, fun q => absurd (Nat.le_refl _) q⟩
    | succ r ih =>
      intro i l hi hl σ1 τ1 hR1 e1
      have e81 : τ1 1 8 = nI l := hR1.rw.b.1.2.1.trans e1
      apply vb_SD_feed_42
      rw [byte_eq w1 i (by omega)]
      generalize hv : ((w1 >>> (((nI 8) * nI i).toInt64 &&& 63)) &&& (lN 255)).toInt32 = v
      rw [nI_add, nI_leI (by omega) (by omega)]
      refine ⟨fun q => absurd q (by omega), fun _ => vc_Row_add_20 ?_⟩
      rw [e1]
      simp (disch := omega) only [nI_clamp, nI_add, pk_mul, pk_sub, ↓pk_rem, pk_div, k_mod, k_m1, nI_ltI, nI_leI, nI_eq, k_n0lt, k_nle0, k_0ltn, k_0len, k_n0eq, k_vin, Nat.reduceAdd, Nat.reduceMul, Nat.reduceLT, Nat.reduceLeDiff, Nat.reduceSub, Nat.reduceEqDiff, Nat.zero_add, Nat.add_zero]
      refine ⟨fun z => absurd z (by omega), fun _ => ⟨trivial, ?_⟩⟩
      rintro _ rfl
      rintro _ rfl
      simp only [k_put_at, k_put_ne (by decide : (20 : Nat) ≠ 21), e1]
      simp (disch := omega) only [nI_clamp, nI_add, pk_mul, pk_sub, ↓pk_rem, pk_div, k_mod, k_m1, nI_ltI, nI_leI, nI_eq, k_n0lt, k_nle0, k_0ltn, k_0len, k_n0eq, k_vin, Nat.reduceAdd, Nat.reduceMul, Nat.reduceLT, Nat.reduceLeDiff, Nat.reduceSub, Nat.reduceEqDiff, Nat.zero_add, Nat.add_zero]
      have hR2 := hR1.now (RB.feed (v := v) hR1.rw e1 (by omega)) hR1.1.2 (fun i hi => by rw [k_put_ne (by omega), k_put_ne (by omega)])
      refine WP.monoI (ih (i + 1) (l + 1) (by omega) (by omega) _ _ hR2 (by rw [k_put_at, upd_at])) (fun u σ' hk => ?_)
      apply vb_Md_feed_41
      rw [hv]
      rw [nI_add, nI_leI (by omega) (by omega)]
      simp (disch := omega) only [nI_clamp, nI_add, pk_mul, pk_sub, ↓pk_rem, pk_div, k_mod, k_m1, nI_ltI, nI_leI, nI_eq, k_n0lt, k_nle0, k_0ltn, k_0len, k_n0eq, k_vin, Nat.reduceAdd, Nat.reduceMul, Nat.reduceLT, Nat.reduceLeDiff, Nat.reduceSub, Nat.reduceEqDiff, Nat.zero_add, Nat.add_zero, e81]
      refine ⟨fun q => absurd q (by omega), fun _ => ⟨trivial, trivial, ?_⟩⟩
      rintro _ rfl
      refine ⟨trivial, trivial, ?_⟩
      rintro _ rfl
      simp only [k_put_put, k_put_at, upd_ne (show (8 : Nat) ≠ 226 + l by omega), e81]
      simp (disch := omega) only [nI_clamp, nI_add, pk_mul, pk_sub, ↓pk_rem, pk_div, k_mod, k_m1, nI_ltI, nI_leI, nI_eq, k_n0lt, k_nle0, k_0ltn, k_0len, k_n0eq, k_vin, Nat.reduceAdd, Nat.reduceMul, Nat.reduceLT, Nat.reduceLeDiff, Nat.reduceSub, Nat.reduceEqDiff, Nat.zero_add, Nat.add_zero]
      exact hk
  refine WP.monoI (key m 0 n (by omega) (by omega) σ τ hR e) (fun v σ' hk => vc_Md_feed (T_in (k_ifnT q ?_)))
  simp (disch := omega) only [nI_clamp, nI_add, pk_mul, pk_sub, ↓pk_rem, pk_div, k_mod, k_m1, nI_ltI, nI_leI, nI_eq, k_n0lt, k_nle0, k_0ltn, k_0len, k_n0eq, k_vin, Nat.reduceAdd, Nat.reduceMul, Nat.reduceLT, Nat.reduceLeDiff, Nat.reduceSub, Nat.reduceEqDiff, Nat.zero_add, Nat.add_zero, e8]
  exact ⟨trivial, fun _ => hk, fun z => absurd (by omega) z⟩
theorem T_textOf {u : Nat} {K : Nat → Sg → Prop} (hu : u = 0 ∨ u = 1) (h : K (if u = 0 then 12 else 16) σ) : CallJ E shC d mX9_textOf [.ref 1, .int (nI u)] σ K := by
  refine vc_World_textOf ?_
  rcases hu with rfl | rfl
  · exact ⟨fun z => absurd rfl z, fun _ => h⟩
  · exact ⟨fun _ => h, fun z => absurd z (by decide)⟩
theorem P_untell (hR : RR σ τ) (h : ∀ v σ' τ', RR σ' τ' → Z v v σ' τ') : CallI E shC (d + 2) mX10_untell [.ref 0, .int x1] σ (fun v σ' => CallI E' shR (d' + 1) mX11_untell [.ref 0, .int x1] τ (fun w τ' => Z v w σ' τ')) := by
  have hx := hR.rw.x
  refine vc_SD_untell (T_isUse (k_ifn (fun q => ?_) (fun q => T_err (by decide) ?_)))
  rotate_left
  · exact vc_Md_untell (T_in (k_ifnF (fun z => q (k_w01.mp z)) (T_Merr1 (h _ _ _ (hR.err (by decide))))))
  obtain ⟨n0, hn0, e0⟩ := hx.1.1
  obtain ⟨n1, hn1, e1⟩ := hx.2.1
  have c0 : cl (σ 13 1) = n0 := by rw [e0]; exact nI_clamp (by omega)
  have c1 : cl (σ 17 1) = n1 := by rw [e1]; exact nI_clamp (by omega)
  rcases id q with rfl | rfl
  · have fin : RR (k_put σ 13 (upd (σ 13) 1 (nI 0))) (k_put τ 1 (upd (τ 1) 310 (nI 0))) := by
      refine hR.now (hR.rw.text (fun i a b c e => k_put_ne a) (fun j hj => upd_ne (by omega)) ⟨?_, ?_⟩) hR.1.2 (fun i hi => k_put_ne (by omega))
      · rw [k_put_at, upd_at]; exact RT.none
      · exact hx.2.fr (fun j a b => upd_ne (by omega))
    have ref : ∀ v, v = k_b (1 ≤ n0) → CallI E' shR (d' + 1) mX11_untell [.ref 0, .int (nI 0)] τ (fun w τ' => Z v w (k_put σ 13 (upd (σ 13) 1 (nI 0))) τ') := by
      intro v hv
      refine vc_Md_untell (T_in (k_ifnT (k_w01.mpr q) ?_))
      simp (disch := omega) only [nI_clamp, nI_add, pk_mul, pk_sub, ↓pk_rem, pk_div, k_mod, k_m1, nI_ltI, nI_leI, nI_eq, k_n0lt, k_nle0, k_0ltn, k_0len, k_n0eq, k_vin, Nat.reduceAdd, Nat.reduceMul, Nat.reduceLT, Nat.reduceLeDiff, Nat.reduceSub, Nat.reduceEqDiff, Nat.zero_add, Nat.add_zero]
      refine T_becomes (by decide) ?_
      rw [show τ 1 310 = nI n0 from hx.1.2.1.trans e0]
      simp (disch := omega) only [nI_clamp, nI_add, pk_mul, pk_sub, ↓pk_rem, pk_div, k_mod, k_m1, nI_ltI, nI_leI, nI_eq, k_n0lt, k_nle0, k_0ltn, k_0len, k_n0eq, k_vin, Nat.reduceAdd, Nat.reduceMul, Nat.reduceLT, Nat.reduceLeDiff, Nat.reduceSub, Nat.reduceEqDiff, Nat.zero_add, Nat.add_zero]
      refine ⟨fun z => ?_, fun z => ?_⟩
      · rw [hv, k_bF (by omega)]; exact h _ _ _ fin
      · rw [hv, k_bT (by omega)]; exact h _ _ _ fin
    refine T_textOf (Or.inl rfl) ⟨fun _ => T_isThere_12 hx.1.1 ?_, fun z => absurd z (by decide), Or.inl rfl⟩
    rw [c0]
    refine k_if (fun z => T_textOf (Or.inl rfl) ⟨fun _ => ?_, fun z => absurd z (by decide), Or.inl rfl⟩) (fun z => T_textOf (Or.inl rfl) ⟨fun _ => ?_, fun z => absurd z (by decide), Or.inl rfl⟩)
    · rintro _ rfl
      exact ref _ (k_bF z).symm
    · rintro _ rfl
      exact ref _ (k_bT z).symm
  · have fin : RR (k_put σ 17 (upd (σ 17) 1 (nI 0))) (k_put τ 1 (upd (τ 1) 431 (nI 0))) := by
      refine hR.now (hR.rw.text (fun i a b c e => k_put_ne c) (fun j hj => upd_ne (by omega)) ⟨?_, ?_⟩) hR.1.2 (fun i hi => k_put_ne (by omega))
      · exact hx.1.fr (fun j a b => upd_ne (by omega))
      · rw [k_put_at, upd_at]; exact RT.none
    have ref : ∀ v, v = k_b (1 ≤ n1) → CallI E' shR (d' + 1) mX11_untell [.ref 0, .int (nI 1)] τ (fun w τ' => Z v w (k_put σ 17 (upd (σ 17) 1 (nI 0))) τ') := by
      intro v hv
      refine vc_Md_untell (T_in (k_ifnT (k_w01.mpr q) ?_))
      simp (disch := omega) only [nI_clamp, nI_add, pk_mul, pk_sub, ↓pk_rem, pk_div, k_mod, k_m1, nI_ltI, nI_leI, nI_eq, k_n0lt, k_nle0, k_0ltn, k_0len, k_n0eq, k_vin, Nat.reduceAdd, Nat.reduceMul, Nat.reduceLT, Nat.reduceLeDiff, Nat.reduceSub, Nat.reduceEqDiff, Nat.zero_add, Nat.add_zero]
      refine T_becomes (by decide) ?_
      rw [show τ 1 431 = nI n1 from hx.2.2.1.trans e1]
      simp (disch := omega) only [nI_clamp, nI_add, pk_mul, pk_sub, ↓pk_rem, pk_div, k_mod, k_m1, nI_ltI, nI_leI, nI_eq, k_n0lt, k_nle0, k_0ltn, k_0len, k_n0eq, k_vin, Nat.reduceAdd, Nat.reduceMul, Nat.reduceLT, Nat.reduceLeDiff, Nat.reduceSub, Nat.reduceEqDiff, Nat.zero_add, Nat.add_zero]
      refine ⟨fun z => ?_, fun z => ?_⟩
      · rw [hv, k_bF (by omega)]; exact h _ _ _ fin
      · rw [hv, k_bT (by omega)]; exact h _ _ _ fin
    refine T_textOf (Or.inr rfl) ⟨fun z => absurd z (by decide), fun _ => T_isThere_16 hx.2.1 ?_, Or.inr rfl⟩
    rw [c1]
    refine k_if (fun z => T_textOf (Or.inr rfl) ⟨fun z => absurd z (by decide), fun _ => ?_, Or.inr rfl⟩) (fun z => T_textOf (Or.inr rfl) ⟨fun z => absurd z (by decide), fun _ => ?_, Or.inr rfl⟩)
    · rintro _ rfl
      exact ref _ (k_bF z).symm
    · rintro _ rfl
      exact ref _ (k_bT z).symm
end P38

/-! promises 2 and 5: somebody new; somebody as one of a kind -/
def tmF (σ : Sg) (n : Nat) : Nat → Sg
  | 0 => σ
  | k + 1 => k_put (tmF σ n k) 7 (upd (tmF σ n k 7) (n * 28 + k) (nI 1))
def tmR (row : Nat → Int32) (n : Nat) : Nat → Nat → Int32
  | 0 => row
  | k + 1 => upd (tmR row n k) (10 + 32 * n + (4 + k)) (nI 1)
theorem tmF_ne {σ : Sg} {n i : Nat} (h : i ≠ 7) : ∀ k, tmF σ n k i = σ i
  | 0 => rfl
  | k + 1 => by simp only [tmF, k_put_ne h]; exact tmF_ne h k
theorem RW.tm {σ : Sg} {row : Nat → Int32} {n : Nat} (h : RW σ row) (hn : n < 6) : ∀ k, k ≤ 28 → RW (tmF σ n k) (tmR row n k)
  | 0, _ => h
  | k + 1, hk => (RW.tm h hn k (by omega)).up7 hn (by omega) ⟨1, by decide, rfl⟩
theorem RW.upN {σ : Sg} {row : Nat → Int32} (h : RW σ row) (hn : nP σ < 6) : RW (k_put σ 2 (upd (σ 2) 5 (nI (nP σ + 1)))) (upd row 2 (nI (nP σ + 1))) := by
  obtain ⟨h1, h2, h3, h4, h5, h6, h7, h8⟩ := h
  have ep : nP (k_put σ 2 (upd (σ 2) 5 (nI (nP σ + 1)))) = nP σ + 1 := by
    show cl (k_put σ 2 _ 2 5) = _
    rw [k_put_at, upd_at]; exact nI_clamp (by omega)
  refine ⟨⟨by rw [k_put_at, upd_at]; exact ⟨nP σ + 1, by omega, rfl⟩, fun p hp => ?_⟩, ⟨by rw [k_put_at, upd_at, upd_at], fun p hp => ?_⟩, ⟨h3.1, fun k hk => ?_⟩, h4.fr (fun i a b => k_put_ne (by omega)) (fun j a => upd_ne (by omega)), h5.fr (k_put_ne (by decide)), h6.fr (k_put_ne (by decide)) (fun j a b _ _ _ => upd_ne (by omega)),
    h7.fr (fun i a b => k_put_ne (by omega)) (fun j a => upd_ne (by omega)), h8.fr (fun i a => k_put_ne (by omega)) (fun j a b => upd_ne (by omega))⟩
  · exact h1.2 p hp
  · obtain ⟨⟨a1, a2, a3, a4⟩, a5⟩ := h2.2 p hp
    refine ⟨⟨?_, ?_, ?_, ?_⟩, fun e he => ?_⟩
    · rw [upd_ne (by omega)]; exact a1
    · rw [upd_ne (by omega)]; exact a2
    · rw [upd_ne (by omega)]; exact a3
    · rw [upd_ne (by omega)]; exact a4
    · rw [upd_ne (by omega)]; exact a5 e he
  · rw [ep]
    obtain ⟨b1, b2, b3⟩ := h3.2 k hk
    exact ⟨k_lt_mono b1 (by omega), k_lt_mono b2 (by omega), b3⟩
/-- somebody new, but for the days -/
def newF (σ : Sg) (k : Nat) : Sg :=
  let n := nP σ
  let σ1 := k_put σ 2 (upd (σ 2) 5 (nI (n + 1)))
  let σ2 := k_put σ1 3 (upd (σ1 3) n (nI (k / 10)))
  let σ3 := k_put σ2 4 (upd (σ2 4) n (nI (k % 10)))
  let σ4 := k_put σ3 5 (upd (σ3 5) n (nI 0))
  k_put σ4 6 (upd (σ4 6) n (nI 100))
theorem newF_ne {σ : Sg} {k i : Nat} (h : i < 2 ∨ 7 ≤ i) : newF σ k i = σ i := by
  simp only [newF, k_put_ne (show i ≠ 2 by omega), k_put_ne (show i ≠ 3 by omega), k_put_ne (show i ≠ 4 by omega), k_put_ne (show i ≠ 5 by omega), k_put_ne (show i ≠ 6 by omega)]
theorem RW.new {σ : Sg} {row : Nat → Int32} {k : Nat} (h : RW σ row) (hn : nP σ < 6) (hk : k < 70) : RW (newF σ k) (upd (upd (upd (upd (upd row 2 (nI (nP σ + 1))) (10 + 32 * nP σ + 0) (nI (k / 10))) (10 + 32 * nP σ + 1) (nI (k % 10))) (10 + 32 * nP σ + 2) (nI 0)) (10 + 32 * nP σ + 3) (nI 100)) :=
  (((((h.upN hn).up3 (p := nP σ) (v := nI (k / 10)) hn ⟨k / 10, by omega, rfl⟩).up4 (p := nP σ) (v := nI (k % 10)) hn ⟨k % 10, by omega, rfl⟩).up5 (p := nP σ) (v := nI 0) hn ⟨0, by decide, rfl⟩).up6 (p := nP σ) (v := nI 100) hn ⟨100, by decide, rfl⟩)
def abF (k : Nat) : Nat := cl (k_tv 0 k)
def unF : Nat → Nat → Nat → Bool
  | 0, k, t => decide (k = t)
  | n + 1, k, t => if k = t then true else unF n (abF k) t
theorem abF_ok : ∀ k, k < 7 → abF k < 7 ∧ k_tv 0 k = nI (abF k) := by decide
theorem unF_ok : ∀ k, k < 7 → ∀ t, t < 7 → (unF 7 k t = true ↔ (t = 0 ∨ t = k ∨ t = 1 ∧ k = 4 ∨ t = 2 ∧ k = 5)) := by decide
section P32
variable {E E' : KE} {S : Shp} {d d' : Nat} {x1 x2 x3 : Int32} {σ τ : Sg} {Z : Int32 → Int32 → Sg → Sg → Prop} {K : Int32 → Sg → Prop}
theorem T_above {k : Nat} (hk : k < 7) (h : K (nI (abF k)) σ) : CallI E S (d + 1) mX0_above [.int (nI k)] σ K := by
  refine vc_Kinds_above (T_isKind (k_ifT ⟨k, hk, rfl⟩ ?_))
  simp (disch := omega) only [nI_clamp, nI_add, pk_mul, pk_sub, ↓pk_rem, pk_div, k_mod, k_m1, nI_ltI, nI_leI, nI_eq, k_n0lt, k_nle0, k_0ltn, k_0len, k_n0eq, k_vin, Nat.reduceAdd, Nat.reduceMul, Nat.reduceLT, Nat.reduceLeDiff, Nat.reduceSub, Nat.reduceEqDiff, Nat.zero_add, Nat.add_zero]
  rw [(abF_ok k hk).2]
  exact ⟨trivial, h⟩
theorem T_isUnder {k t : Nat} (hk : k < 7) (ht : t < 7) (h : K (k_b (unF 7 k t = true)) σ) : CallI E S (d + 2) mX0_isUnder [.int (nI k), .int (nI t)] σ K := by
  refine vc_Kinds_isUnder ?_
  have loop : ∀ n i k, i + n = 7 → k < 7 → K (k_b (unF n k t = true)) σ → WP E S mX0_isUnder (d + 1 + 1) 4 [none, some (.int (nI t)), some (.int (nI k)), some (.int (nI i))] [] σ (k_qi K) := by
    intro n
    induction n with
    | zero =>
      intro i k hi hk h
      apply vb_Kinds_isUnder_4
      simp (disch := omega) only [nI_clamp, nI_add, pk_mul, pk_sub, ↓pk_rem, pk_div, k_mod, k_m1, nI_ltI, nI_leI, nI_eq, k_n0lt, k_nle0, k_0ltn, k_0len, k_n0eq, k_vin, Nat.reduceAdd, Nat.reduceMul, Nat.reduceLT, Nat.reduceLeDiff, Nat.reduceSub, Nat.reduceEqDiff, Nat.zero_add, Nat.add_zero]
      refine ⟨fun _ => ⟨fun q => ?_, fun q => ?_⟩, fun q => absurd (by omega) q⟩
      · rw [k_bF (by simp only [unF, decide_eq_true_eq]; exact q)] at h; exact h
      · rw [k_bT (by simp only [unF, decide_eq_true_eq]; exact q)] at h; exact h
    | succ n ih =>
      intro i k hi hk h
      apply vb_Kinds_isUnder_4
      simp (disch := omega) only [nI_clamp, nI_add, pk_mul, pk_sub, ↓pk_rem, pk_div, k_mod, k_m1, nI_ltI, nI_leI, nI_eq, k_n0lt, k_nle0, k_0ltn, k_0len, k_n0eq, k_vin, Nat.reduceAdd, Nat.reduceMul, Nat.reduceLT, Nat.reduceLeDiff, Nat.reduceSub, Nat.reduceEqDiff, Nat.zero_add, Nat.add_zero]
      refine ⟨fun q => absurd q (by omega), fun _ => ⟨fun q => ⟨fun q2 => absurd q q2, fun _ => ?_⟩, fun q => T_above hk ?_⟩⟩
      · rw [k_bT (by simp only [unF, if_pos q])] at h; exact h
      · simp only [unF, if_neg q] at h
        exact ih (i + 1) _ (by omega) (abF_ok k hk).1 h
  exact loop 7 0 k rfl hk h
theorem T_join {k : Nat} (hn : nP σ < 6) (hA : IvA σ) (hk : k < 70) (h : K (nI (nP σ)) (tmF (newF σ k) (nP σ) 28)) : CallI E shC (d + 1) mX1_join [.ref 2, .int (nI k)] σ K := by
  have e5 : σ 2 5 = nI (nP σ) := (cl_lt hA.1 (by decide)).2
  refine vc_People_join ?_
  generalize nP σ = n at *
  rw [e5]
  simp (disch := omega) only [nI_clamp, nI_add, pk_mul, pk_sub, ↓pk_rem, pk_div, k_mod, k_m1, nI_ltI, nI_leI, nI_eq, k_n0lt, k_nle0, k_0ltn, k_0len, k_n0eq, k_vin, Nat.reduceAdd, Nat.reduceMul, Nat.reduceLT, Nat.reduceLeDiff, Nat.reduceSub, Nat.reduceEqDiff, Nat.zero_add, Nat.add_zero]
  rintro _ rfl
  refine T_setKind hn hk ⟨trivial, ?_⟩
  rintro _ rfl
  refine ⟨trivial, ?_⟩
  rintro _ rfl
  have en : nP σ = n := by show cl (σ 2 5) = n; rw [e5]; exact nI_clamp (by omega)
  have e9 : newF σ k = k_put (k_put (k_put (k_put (k_put σ 2 (upd (σ 2) 5 (nI (n + 1)))) 3 (upd (k_put σ 2 (upd (σ 2) 5 (nI (n + 1))) 3) n (nI (k / 10)))) 4 (upd (k_put σ 2 (upd (σ 2) 5 (nI (n + 1))) 4) n (nI (k % 10)))) 5 (upd (k_put (k_put (k_put σ 2 (upd (σ 2) 5 (nI (n + 1)))) 3 (upd (k_put σ 2 (upd (σ 2) 5 (nI (n + 1))) 3) n (nI (k / 10)))) 4 (upd (k_put σ 2 (upd (σ 2) 5 (nI (n + 1))) 4) n (nI (k % 10))) 5) n (nI 0))) 6 (upd (k_put (k_put (k_put (k_put σ 2 (upd (σ 2) 5 (nI (n + 1)))) 3 (upd (k_put σ 2 (upd (σ 2) 5 (nI (n + 1))) 3) n (nI (k / 10)))) 4 (upd (k_put σ 2 (upd (σ 2) 5 (nI (n + 1))) 4) n (nI (k % 10)))) 5 (upd (k_put (k_put (k_put σ 2 (upd (σ 2) 5 (nI (n + 1)))) 3 (upd (k_put σ 2 (upd (σ 2) 5 (nI (n + 1))) 3) n (nI (k / 10)))) 4 (upd (k_put σ 2 (upd (σ 2) 5 (nI (n + 1))) 4) n (nI (k % 10))) 5) n (nI 0)) 6) n (nI 100)) := by
    unfold newF
    rw [en]
    rfl
  rw [← e9]
  generalize newF σ k = ρ at h
  have loop : ∀ r i, i + r = 28 → WP E shC mX1_join (d + 1) 38 [some (.ref 2), none, some (.int (nI n)), some (.int (nI i))] [] (tmF ρ n i) (k_qi K) := by
    intro r
    induction r with
    | zero =>
      intro i hi
      have e : i = 28 := by omega
      subst e
      apply vb_People_join_38
      exact ⟨fun _ => h, fun q => absurd (Int32.le_refl _) q⟩
    | succ r ih =>
      intro i hi
      apply vb_People_join_38
      simp (disch := omega) only [nI_clamp, nI_add, pk_mul, pk_sub, ↓pk_rem, pk_div, k_mod, k_m1, nI_ltI, nI_leI, nI_eq, k_n0lt, k_nle0, k_0ltn, k_0len, k_n0eq, k_vin, Nat.reduceAdd, Nat.reduceMul, Nat.reduceLT, Nat.reduceLeDiff, Nat.reduceSub, Nat.reduceEqDiff, Nat.zero_add, Nat.add_zero]
      exact ⟨fun q => absurd q (by omega), fun _ => T_setTimes hn (by omega) (ih (i + 1) (by omega))⟩
  exact loop 28 0 rfl
theorem P_person (hR : RR σ τ) (h : ∀ v σ' τ', RR σ' τ' → Z v v σ' τ') : CallI E shC (d + 2) mX10_person [.ref 0, .int x1] σ (fun v σ' => CallI E' shR (d' + 3) mX11_person [.ref 0, .int x1] τ (fun w τ' => Z v w σ' τ')) := by
  have hA := hR.rw.a
  have hRA := hR.rw.ra
  have hn := nP_le hA
  have e5 : σ 2 5 = nI (nP σ) := (cl_lt hA.1 (by decide)).2
  refine vc_SD_person (T_kmC (k_ifn (fun q => ?_) (fun q => T_err (by decide) ?_)))
  · obtain ⟨k, hk, rfl⟩ := id q
    rw [e5]
    simp (disch := omega) only [nI_clamp, nI_add, pk_mul, pk_sub, ↓pk_rem, pk_div, k_mod, k_m1, nI_ltI, nI_leI, nI_eq, k_n0lt, k_nle0, k_0ltn, k_0len, k_n0eq, k_vin, Nat.reduceAdd, Nat.reduceMul, Nat.reduceLT, Nat.reduceLeDiff, Nat.reduceSub, Nat.reduceEqDiff, Nat.zero_add, Nat.add_zero]
    refine ⟨fun q2 => T_join q2 hA hk (vc_Md_person (T_isKm (k_ifnT q ?_))), fun q2 => T_err (by decide) (vc_Md_person (T_isKm (k_ifnT q ?_)))⟩
    · simp (disch := omega) only [nI_clamp, nI_add, pk_mul, pk_sub, ↓pk_rem, pk_div, k_mod, k_m1, nI_ltI, nI_leI, nI_eq, k_n0lt, k_nle0, k_0ltn, k_0len, k_n0eq, k_vin, Nat.reduceAdd, Nat.reduceMul, Nat.reduceLT, Nat.reduceLeDiff, Nat.reduceSub, Nat.reduceEqDiff, Nat.zero_add, Nat.add_zero, hRA.1, e5]
      refine ⟨trivial, fun _ => ⟨trivial, trivial, ?_⟩, fun q3 => absurd q3 (by omega)⟩
      rintro _ rfl
      refine T_Mlay q2 (by omega) (T_Mlay q2 (by omega) (T_Mlay q2 (by omega) (T_Mlay q2 (by omega) ?_)))
      simp only [k_put_put, k_put_at]
      have w := hR.rw.new q2 hk
      generalize hrow : upd (upd (upd (upd (upd (τ 1) 2 (nI (nP σ + 1))) (10 + 32 * nP σ + 0) (nI (k / 10))) (10 + 32 * nP σ + 1) (nI (k % 10))) (10 + 32 * nP σ + 2) (nI 0)) (10 + 32 * nP σ + 3) (nI 100) = row at w
      have loop : ∀ r i, i + r = 28 → WP E' shR mX11_person (d' + 2 + 1) 81 [some (.ref 0), none, some (.int (nI (nP σ))), some (.int (nI i))] [] (k_put τ 1 (tmR row (nP σ) i)) (k_qi fun w τ' => Z (nI (nP σ)) w (tmF (newF σ k) (nP σ) 28) τ') := by
        intro r
        induction r with
        | zero =>
          intro i hi
          have e : i = 28 := by omega
          subst e
          apply vb_Md_person_81
          refine ⟨fun _ => h _ _ _ (hR.now (w.tm q2 28 (by decide)) ?_ (fun j hj => ?_)), fun q => absurd (Int32.le_refl _) q⟩
          · unfold nT; rw [tmF_ne (by decide), newF_ne (by decide)]; exact hR.1.2
          · rw [tmF_ne (by omega), newF_ne (by omega)]
        | succ r ih =>
          intro i hi
          apply vb_Md_person_81
          simp (disch := omega) only [nI_clamp, nI_add, pk_mul, pk_sub, ↓pk_rem, pk_div, k_mod, k_m1, nI_ltI, nI_leI, nI_eq, k_n0lt, k_nle0, k_0ltn, k_0len, k_n0eq, k_vin, Nat.reduceAdd, Nat.reduceMul, Nat.reduceLT, Nat.reduceLeDiff, Nat.reduceSub, Nat.reduceEqDiff, Nat.zero_add, Nat.add_zero]
          refine ⟨fun q => absurd q (by omega), fun _ => T_Mlay q2 (by omega) ?_⟩
          rw [k_put_put, k_put_at]
          exact ih (i + 1) (by omega)
      exact loop 28 0 rfl
    · simp (disch := omega) only [nI_clamp, nI_add, pk_mul, pk_sub, ↓pk_rem, pk_div, k_mod, k_m1, nI_ltI, nI_leI, nI_eq, k_n0lt, k_nle0, k_0ltn, k_0len, k_n0eq, k_vin, Nat.reduceAdd, Nat.reduceMul, Nat.reduceLT, Nat.reduceLeDiff, Nat.reduceSub, Nat.reduceEqDiff, Nat.zero_add, Nat.add_zero, hRA.1, e5]
      exact ⟨trivial, fun q3 => absurd (by omega) q3, fun _ => T_Merr4 (h _ _ _ (hR.err (by decide)))⟩
  · exact vc_Md_person (T_isKm (k_ifnF q (T_Merr1 (h _ _ _ (hR.err (by decide))))))
theorem P_as (hR : RR σ τ) (h : ∀ v σ' τ', RR σ' τ' → Z v v σ' τ') : CallI E shC (d + 4) mX10_as [.ref 0, .int x1, .int x2] σ (fun v σ' => CallI E' shR (d' + 3) mX11_as [.ref 0, .int x1, .int x2] τ (fun w τ' => Z v w σ' τ')) := by
  have hA := hR.rw.a
  have hRA := hR.rw.ra
  refine vc_SD_as (T_knows hA (k_if (fun q => T_err (by decide) ?_) (fun q => T_isKind (k_ifn (fun q2 => ?_) (fun q2 => T_err (by decide) ?_)))))
  · exact vc_Md_as (T_isPerson hA hRA (k_ifF q (T_Merr1 (h _ _ _ (hR.err (by decide))))))
  · obtain ⟨p, hp, rfl⟩ := id q
    obtain ⟨t, ht, rfl⟩ := id q2
    have hn := nP_le hA
    obtain ⟨⟨a1, a2, a3, a4⟩, -⟩ := hRA.2 p (by omega)
    obtain ⟨⟨⟨k, hk, ek⟩, -, -, -⟩, -⟩ := hA.2 p (by omega)
    have hun := unF_ok k hk t ht
    simp (disch := omega) only [nI_clamp, nI_add, pk_mul, pk_sub, ↓pk_rem, pk_div, k_mod, k_m1, nI_ltI, nI_leI, nI_eq, k_n0lt, k_nle0, k_0ltn, k_0len, k_n0eq, k_vin, Nat.reduceAdd, Nat.reduceMul, Nat.reduceLT, Nat.reduceLeDiff, Nat.reduceSub, Nat.reduceEqDiff, Nat.zero_add, Nat.add_zero, ek]
    have fin : ∀ v σ', (unF 7 k t = true → v = σ 4 p ∧ σ' = σ) → (¬ unF 7 k t = true → v = (-1000000000 : Int32) - nI 5 ∧ σ' = errC σ 5) → CallI E' shR (d' + 3) mX11_as [.ref 0, .int (nI p), .int (nI t)] τ (fun w' τ' => Z v w' σ' τ') := by
      intro v σ' h1 h2
      have fT : unF 7 k t = true → CallI E' shR (d' + 2) mX11_of [.ref 0, .int (nI p), .int (nI 1)] τ (fun w' τ' => Z v w' σ' τ') := by
        intro u
        obtain ⟨rfl, rfl⟩ := h1 u
        refine T_Mof (by omega) (by omega) ?_
        rw [a2]; exact h _ _ _ hR
      have fF : ¬ unF 7 k t = true → CallI E' shR (d' + 2) mX11_error [.ref 0, .int (-1000000005 : Int32)] τ (fun w' τ' => Z v w' σ' τ') := by
        intro u
        obtain ⟨rfl, rfl⟩ := h2 u
        exact T_Merr5 (h _ _ _ (hR.err (by decide)))
      have one : ((nI 1) = 0 → CallI E' shR (d' + 2) mX11_error [.ref 0, .int (-1000000005 : Int32)] τ (fun w' τ' => Z v w' σ' τ')) := fun q => absurd q (by decide)
      refine vc_Md_as (T_isPerson hA hRA (k_ifT q (T_in (k_ifnT ((k_w0 (by decide)).mpr ⟨t, by omega, rfl⟩) (T_Mof (by omega) (by omega) ?_)))))
      rw [show τ 1 (10 + 32 * p + 0) = nI k from a1.trans ek]
      rw [show (nI t = (0 : Int32)) = (t = 0) from k_n0eq (by omega)]
      simp (disch := omega) only [nI_eq]
      have rest : ¬ t = 0 → ¬ t = k → (¬ t = 1 ∨ ¬ k = 4) → WP E' shR mX11_as (d' + 2 + 1) 51 [some (.ref 0), some (.int (nI p)), some (.int (nI t)), some (.int (nI k)), none] [] τ (k_qi fun w' τ' => Z v w' σ' τ') := by
        intro z1 z2 z3
        apply vb_Md_as_51
        simp (disch := omega) only [nI_eq]
        refine ⟨fun z4 => ⟨fun _ => fF (by rw [hun]; omega), fun z => absurd rfl z⟩, fun z4 => ⟨fun z5 => ⟨fun _ => fF (by rw [hun]; omega), fun z => absurd rfl z⟩, fun z5 => ⟨one, fun _ => fT (by rw [hun]; omega)⟩⟩⟩
      refine ⟨fun z => ⟨one, fun _ => fT (by rw [hun]; omega)⟩, fun z => ⟨fun z2 => ⟨one, fun _ => fT (by rw [hun]; omega)⟩, fun z2 => ⟨fun z3 => rest z z2 (Or.inl z3), fun z3 => ⟨fun z4 => ⟨one, fun _ => fT (by rw [hun]; omega)⟩, fun z4 => rest z z2 (Or.inr z4)⟩⟩⟩⟩
    refine ⟨trivial, T_isUnder hk ht (k_ifn (fun u => ⟨trivial, fin _ _ (fun _ => ⟨rfl, rfl⟩) (fun u' => absurd u u')⟩) (fun u => T_err (by decide) (fin _ _ (fun u' => absurd u' u) (fun _ => ⟨rfl, rfl⟩))))⟩
  · refine vc_Md_as (T_isPerson hA hRA (k_ifT q (T_in (k_ifnF (fun z => q2 ?_) (T_Merr1 (h _ _ _ (hR.err (by decide))))))))
    exact (k_w0 (by decide)).mp z
end P32

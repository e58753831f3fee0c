/-! promises 12, 13, 17, 20, 38, 39, 41 -/
theorem RW.upZ {σ : Sg} {row : Nat → Int32} {v : Int32} (h : RW σ row) : RW (k_put σ 1 (upd (σ 1) 11 v)) (upd row 1 v) := by
  obtain ⟨h1, h2, h3, h4, h5, h6, h7, h8⟩ := h
  obtain ⟨a1, a2, a3, a4, a5, a6⟩ := h6
  refine ⟨h1.fr (fun i a b => k_put_ne (by omega)), h2.fr (fun i a b => k_put_ne (by omega)) (fun j a => upd_ne (by omega)), h3.fr (by rw [k_put_ne (by decide)]) (fun i a b => k_put_ne (by omega)), h4.fr (fun i a b => k_put_ne (by omega)) (fun j a => upd_ne (by omega)), ?_, ?_,
    h7.fr (fun i a b => k_put_ne (by omega)) (fun j a => upd_ne (by omega)), h8.fr (fun i a => k_put_ne (by omega)) (fun j a b => upd_ne (by omega))⟩
  · unfold IvC at *
    rw [k_put_at, upd_ne (by decide), upd_ne (by decide), upd_ne (by decide), upd_ne (by decide), upd_ne (by decide)]; exact h5
  · exact ⟨a1, rfl, a3, a4, a5, a6⟩
theorem k_b2 {P : Prop} : k_b P = k_b P := rfl
/-- kept: both are up that day -/
def keptF (σ : Sg) (k : Nat) : Prop := 0 < lvF σ (cl (σ 9 k)) (cl (σ 11 k)) ∧ 0 < lvF σ (cl (σ 10 k)) (cl (σ 11 k))
def proF (σ : Sg) (p o q : Nat) : Sg :=
  let k := nQ σ
  let σ1 := k_put σ 8 (upd (σ 8) 3 (nI (k + 1)))
  let σ2 := k_put σ1 9 (upd (σ1 9) k (nI p))
  let σ3 := k_put σ2 10 (upd (σ2 10) k (nI o))
  k_put σ3 11 (upd (σ3 11) k (nI q))
theorem nQ_le {σ : Sg} (h : IvQ σ) : nQ σ ≤ 8 := by have := (cl_lt h.1 (by decide)).1; unfold nQ; omega
theorem RW.pro {σ : Sg} {row : Nat → Int32} {p o q : Nat} (h : RW σ row) (hk : nQ σ < 8) (hp : p < nP σ) (ho : o < nP σ) (hq : q < 28) : RW (proF σ p o q) (upd (upd (upd (upd row 3 (nI (nQ σ + 1))) (202 + 3 * nQ σ) (nI p)) (202 + 3 * nQ σ + 1) (nI o)) (202 + 3 * nQ σ + 2) (nI q)) := by
  obtain ⟨h1, h2, h3, h4, h5, h6, h7, h8⟩ := h
  have c8 : proF σ p o q 8 = upd (σ 8) 3 (nI (nQ σ + 1)) := rfl
  have c9 : proF σ p o q 9 = upd (σ 9) (nQ σ) (nI p) := rfl
  have c10 : proF σ p o q 10 = upd (σ 10) (nQ σ) (nI o) := rfl
  have c11 : proF σ p o q 11 = upd (σ 11) (nQ σ) (nI q) := rfl
  have cn : ∀ i, (i < 8 ∨ 12 ≤ i) → proF σ p o q i = σ i := by
    intro i hi
    simp only [proF, k_put_ne (show i ≠ 8 by omega), k_put_ne (show i ≠ 9 by omega), k_put_ne (show i ≠ 10 by omega), k_put_ne (show i ≠ 11 by omega)]
  have ep : nP (proF σ p o q) = nP σ := by show cl (proF σ p o q 2 5) = cl (σ 2 5); rw [cn 2 (by decide)]
  have eq : nQ (proF σ p o q) = nQ σ + 1 := by
    show cl (proF σ p o q 8 3) = _
    rw [c8, upd_at]; exact nI_clamp (by omega)
  refine ⟨h1.fr (fun i a b => cn i (by omega)), h2.fr (fun i a b => cn i (by omega)) (fun j a => by rw [upd_ne (by omega), upd_ne (by omega), upd_ne (by omega), upd_ne (by omega)]), ⟨by rw [c8, upd_at]; exact ⟨_, by omega, rfl⟩, fun j hj => ?_⟩, ⟨by rw [c8, upd_at, upd_ne (by omega), upd_ne (by omega), upd_ne (by omega), upd_at], fun j hj => ?_⟩, h5.fr (cn 1 (by decide)), h6.fr (cn 1 (by decide)) (fun j a b c _ _ => by rw [upd_ne (by omega), upd_ne (by omega), upd_ne (by omega), upd_ne (by omega)]),
    h7.fr (fun i a b => cn i (by omega)) (fun j a => by rw [upd_ne (by omega), upd_ne (by omega), upd_ne (by omega), upd_ne (by omega)]), h8.fr (fun i a => cn i (by omega)) (fun j a b => by rw [upd_ne (by omega), upd_ne (by omega), upd_ne (by omega), upd_ne (by omega)])⟩
  · rw [ep, c9, c10, c11]
    rw [eq] at hj
    by_cases e : j = nQ σ
    · rw [e, upd_at, upd_at, upd_at]
      exact ⟨⟨p, hp, rfl⟩, ⟨o, ho, rfl⟩, ⟨q, hq, rfl⟩⟩
    · rw [upd_ne e, upd_ne e, upd_ne e]; exact h3.2 j (by omega)
  · rw [c9, c10, c11]
    by_cases e : j = nQ σ
    · rw [e, upd_at, upd_at, upd_at, upd_at, upd_ne (show 202 + 3 * nQ σ ≠ 202 + 3 * nQ σ + 2 by omega), upd_ne (show 202 + 3 * nQ σ ≠ 202 + 3 * nQ σ + 1 by omega), upd_at, upd_ne (show 202 + 3 * nQ σ + 1 ≠ 202 + 3 * nQ σ + 2 by omega), upd_at]
      exact ⟨rfl, rfl, rfl⟩
    · rw [upd_ne e, upd_ne e, upd_ne e]
      obtain ⟨b1, b2, b3⟩ := h4.2 j hj
      refine ⟨?_, ?_, ?_⟩
      · rw [upd_ne (by omega), upd_ne (by omega), upd_ne (by omega), upd_ne (by omega)]; exact b1
      · rw [upd_ne (by omega), upd_ne (by omega), upd_ne (by omega), upd_ne (by omega)]; exact b2
      · rw [upd_ne (by omega), upd_ne (by omega), upd_ne (by omega), upd_ne (by omega)]; exact b3
section P34
variable {E E' : KE} {S : Shp} {d d' : Nat} {x1 x2 x3 x4 : Int32} {σ τ : Sg} {Z : Int32 → Int32 → Sg → Sg → Prop} {K : Int32 → Sg → Prop}
theorem T_isKept {k : Nat} (hA : IvA σ) (hQ : IvQ σ) (hk : k < nQ σ) (h : K (k_b (keptF σ k)) σ) : CallI E shC (d + 3) mX2_isKept [.ref 8, .int (nI k), .ref 2] σ K := by
  have hq := nQ_le hQ
  have hn := nP_le hA
  obtain ⟨⟨p, hp, e1⟩, ⟨o, ho, e2⟩, ⟨q, hq2, e3⟩⟩ := hQ.2 k hk
  have z1 : cl (σ 9 k) = p := by rw [e1]; exact nI_clamp (by omega)
  have z2 : cl (σ 10 k) = o := by rw [e2]; exact nI_clamp (by omega)
  have z3 : cl (σ 11 k) = q := by rw [e3]; exact nI_clamp (by omega)
  unfold keptF at h
  rw [z1, z2, z3] at h
  refine vc_Promises_isKept ?_
  simp (disch := omega) only [nI_clamp, nI_add, pk_mul, pk_sub, ↓pk_rem, pk_div, k_mod, k_m1, nI_ltI, nI_leI, nI_eq, k_n0lt, k_nle0, k_0ltn, k_0len, k_n0eq, k_vin, Nat.reduceAdd, Nat.reduceMul, Nat.reduceLT, Nat.reduceLeDiff, Nat.reduceSub, Nat.reduceEqDiff, Nat.zero_add, Nat.add_zero, e1, e3]
  refine ⟨trivial, trivial, T_isUp (by omega) hq2 (k_if (fun q1 => ?_) (fun q1 => ⟨trivial, ?_⟩))⟩
  · rw [k_bF (fun w => q1 w.1)] at h; exact h
  rw [e2]
  refine T_isUp (by omega) hq2 (k_if (fun q2 => ?_) (fun q2 => ?_))
  · rw [k_bF (fun w => q2 w.2)] at h; exact h
  · rw [k_bT ⟨q1, q2⟩] at h; exact h
theorem T_said {k w : Nat} (hk : k < 8) (hw : w < 3) (h : K (τ 1 (202 + 3 * k + w)) τ) : CallI E shR d mX11_said [.ref 0, .int (nI k), .int (nI w)] τ K := by
  refine vc_Md_said ?_
  simp (disch := omega) only [nI_clamp, nI_add, pk_mul, pk_sub, ↓pk_rem, pk_div, k_mod, k_m1, nI_ltI, nI_leI, nI_eq, k_n0lt, k_nle0, k_0ltn, k_0len, k_n0eq, k_vin, Nat.reduceAdd, Nat.reduceMul, Nat.reduceLT, Nat.reduceLeDiff, Nat.reduceSub, Nat.reduceEqDiff, Nat.zero_add, Nat.add_zero]
  exact ⟨trivial, h⟩
theorem T_MisKept {k : Nat} (hW : RW σ (τ 1)) (hk : k < nQ σ) (h : K (k_b (keptF σ k)) τ) : CallI E shR (d + 3) mX11_isKept [.ref 0, .int (nI k)] τ K := by
  have hq := nQ_le hW.q
  have hn := nP_le hW.a
  obtain ⟨⟨p, hp, e1⟩, ⟨o, ho, e2⟩, ⟨q, hq2, e3⟩⟩ := hW.q.2 k hk
  obtain ⟨b1, b2, b3⟩ := hW.rq.2 k (by omega)
  have z1 : cl (σ 9 k) = p := by rw [e1]; exact nI_clamp (by omega)
  have z2 : cl (σ 10 k) = o := by rw [e2]; exact nI_clamp (by omega)
  have z3 : cl (σ 11 k) = q := by rw [e3]; exact nI_clamp (by omega)
  unfold keptF at h
  rw [z1, z2, z3] at h
  have b1 : τ 1 (202 + 3 * k + 0) = nI p := b1.trans e1
  refine vc_Md_isKept (T_said (by omega) (by decide) (T_said (by omega) (by decide) ?_))
  rw [b1, b3, e3]
  refine T_MisUp hW.ra (by omega) hq2 (k_if (fun q1 => ?_) (fun q1 => T_said (by omega) (by decide) ?_))
  · rw [k_bF (fun w => q1 w.1)] at h; exact h
  rw [b2, e2]
  refine T_MisUp hW.ra (by omega) hq2 (k_if (fun q2 => ?_) (fun q2 => ?_))
  · rw [k_bF (fun w => q2 w.2)] at h; exact h
  · rw [k_bT ⟨q1, q2⟩] at h; exact h
theorem P_promise (hR : RR σ τ) (h : ∀ v σ' τ', RR σ' τ' → Z v v σ' τ') : CallI E shC (d + 3) mX10_promise [.ref 0, .int x1, .int x2, .int x3] σ (fun v σ' => CallI E' shR (d' + 3) mX11_promise [.ref 0, .int x1, .int x2, .int x3] τ (fun w τ' => Z v w σ' τ')) := by
  have hA := hR.rw.a
  have hRA := hR.rw.ra
  have hQ := nQ_le hR.rw.q
  have e8 : σ 8 3 = nI (nQ σ) := (cl_lt hR.rw.q.1 (by decide)).2
  have e3 : τ 1 3 = nI (nQ σ) := hR.rw.rq.1.trans e8
  refine vc_SD_promise (T_areTwo hA (k_if (fun q => T_err (by decide) ?_) (fun q => T_isDay (k_ifn (fun q2 => ?_) (fun q2 => T_err (by decide) ?_)))))
  · exact vc_Md_promise (T_MareTwo hA hRA (k_ifF q (T_Merr1 (h _ _ _ (hR.err (by decide))))))
  · obtain ⟨⟨p, hp, rfl⟩, ⟨o, ho, rfl⟩, hpo⟩ := id q
    obtain ⟨t, ht, rfl⟩ := id q2
    rw [e8]
    simp (disch := omega) only [nI_clamp, nI_add, pk_mul, pk_sub, ↓pk_rem, pk_div, k_mod, k_m1, nI_ltI, nI_leI, nI_eq, k_n0lt, k_nle0, k_0ltn, k_0len, k_n0eq, k_vin, Nat.reduceAdd, Nat.reduceMul, Nat.reduceLT, Nat.reduceLeDiff, Nat.reduceSub, Nat.reduceEqDiff, Nat.zero_add, Nat.add_zero]
    refine ⟨fun q3 => vc_Promises_join ?_, fun q3 => T_err (by decide) ?_⟩
    · rw [e8]
      simp (disch := omega) only [nI_clamp, nI_add, pk_mul, pk_sub, ↓pk_rem, pk_div, k_mod, k_m1, nI_ltI, nI_leI, nI_eq, k_n0lt, k_nle0, k_0ltn, k_0len, k_n0eq, k_vin, Nat.reduceAdd, Nat.reduceMul, Nat.reduceLT, Nat.reduceLeDiff, Nat.reduceSub, Nat.reduceEqDiff, Nat.zero_add, Nat.add_zero]
      rintro _ rfl
      refine ⟨trivial, ?_⟩
      rintro _ rfl
      refine ⟨trivial, ?_⟩
      rintro _ rfl
      refine ⟨trivial, ?_⟩
      rintro _ rfl
      refine vc_Md_promise (T_MareTwo hA hRA (k_ifT q (T_MisDay (k_ifnT q2 ?_))))
      simp (disch := omega) only [nI_clamp, nI_add, pk_mul, pk_sub, ↓pk_rem, pk_div, k_mod, k_m1, nI_ltI, nI_leI, nI_eq, k_n0lt, k_nle0, k_0ltn, k_0len, k_n0eq, k_vin, Nat.reduceAdd, Nat.reduceMul, Nat.reduceLT, Nat.reduceLeDiff, Nat.reduceSub, Nat.reduceEqDiff, Nat.zero_add, Nat.add_zero, e3]
      refine ⟨trivial, fun _ => ⟨trivial, trivial, ?_⟩, fun q4 => absurd q4 (by omega)⟩
      rintro _ rfl
      refine ⟨trivial, ?_⟩
      rintro _ rfl
      refine ⟨trivial, ?_⟩
      rintro _ rfl
      refine ⟨trivial, ?_⟩
      rintro _ rfl
      simp only [k_put_put, k_put_at]
      have w := hR.rw.pro q3 hp ho ht
      refine h _ _ _ (hR.now w hR.1.2 (fun i hi => ?_))
      show k_put (k_put (k_put (k_put σ 8 _) 9 _) 10 _) 11 _ i = σ i
      rw [k_put_ne (by omega), k_put_ne (by omega), k_put_ne (by omega), k_put_ne (by omega)]
    · refine vc_Md_promise (T_MareTwo hA hRA (k_ifT q (T_MisDay (k_ifnT q2 ?_))))
      simp (disch := omega) only [nI_clamp, nI_add, pk_mul, pk_sub, ↓pk_rem, pk_div, k_mod, k_m1, nI_ltI, nI_leI, nI_eq, k_n0lt, k_nle0, k_0ltn, k_0len, k_n0eq, k_vin, Nat.reduceAdd, Nat.reduceMul, Nat.reduceLT, Nat.reduceLeDiff, Nat.reduceSub, Nat.reduceEqDiff, Nat.zero_add, Nat.add_zero, e3]
      exact ⟨trivial, fun q4 => absurd (by omega) q4, fun _ => T_Merr4 (h _ _ _ (hR.err (by decide)))⟩
  · exact vc_Md_promise (T_MareTwo hA hRA (k_ifT q (T_MisDay (k_ifnF q2 (T_Merr1 (h _ _ _ (hR.err (by decide))))))))
theorem k_wm {x : Int32} {n : Nat} (hn : n < 2 ^ 30) : ((nI 0).toInt ≤ x.toInt ∧ x.toInt ≤ (nI n - nI 1).toInt) ↔ k_lt x n := by
  rw [k_lt_iff (by omega), pk_sub_toInt (by omega) (by decide), show (nI 0).toInt = 0 by decide]; omega
theorem P_promiseIs (hR : RR σ τ) (h : ∀ v σ' τ', RR σ' τ' → Z v v σ' τ') : CallI E shC (d + 4) mX10_promiseIs [.ref 0, .int x1, .int x2] σ (fun v σ' => CallI E' shR (d' + 4) mX11_promiseIs [.ref 0, .int x1, .int x2] τ (fun w τ' => Z v w σ' τ')) := by
  have hA := hR.rw.a
  have hRA := hR.rw.ra
  have hQ := nQ_le hR.rw.q
  have e8 : σ 8 3 = nI (nQ σ) := (cl_lt hR.rw.q.1 (by decide)).2
  have e3 : τ 1 3 = nI (nQ σ) := hR.rw.rq.1.trans e8
  refine vc_SD_promiseIs ?_
  rw [e8]
  refine T_isWithin ?_
  rw [k_bc (k_wm (by omega))]
  refine k_if (fun q => T_err (by decide) ?_) (fun q => T_isWithin (k_ifn (fun q2 => ?_) (fun q2 => T_err (by decide) ?_)))
  · refine vc_Md_promiseIs ?_
    simp (disch := omega) only [nI_clamp, nI_add, pk_mul, pk_sub, ↓pk_rem, pk_div, k_mod, k_m1, nI_ltI, nI_leI, nI_eq, k_n0lt, k_nle0, k_0ltn, k_0len, k_n0eq, k_vin, Nat.reduceAdd, Nat.reduceMul, Nat.reduceLT, Nat.reduceLeDiff, Nat.reduceSub, Nat.reduceEqDiff, Nat.zero_add, Nat.add_zero, e3]
    refine ⟨trivial, T_in ?_⟩
    rw [k_bc (k_wm (by omega))]
    exact k_ifF q (T_Merr1 (h _ _ _ (hR.err (by decide))))
  · obtain ⟨k, hk, rfl⟩ := id q
    obtain ⟨w, hw, rfl⟩ := (k_w0 (by decide)).mp q2
    obtain ⟨b1, b2, b3⟩ := hR.rw.rq.2 k (by omega)
    have fin : ∀ v, (¬ w = 3 → v = τ 1 (202 + 3 * k + w)) → (w = 3 → v = k_b (keptF σ k)) → CallI E' shR (d' + 4) mX11_promiseIs [.ref 0, .int (nI k), .int (nI w)] τ (fun w' τ' => Z v w' σ τ') := by
      intro v h1 h2
      refine vc_Md_promiseIs ?_
      simp (disch := omega) only [nI_clamp, nI_add, pk_mul, pk_sub, ↓pk_rem, pk_div, k_mod, k_m1, nI_ltI, nI_leI, nI_eq, k_n0lt, k_nle0, k_0ltn, k_0len, k_n0eq, k_vin, Nat.reduceAdd, Nat.reduceMul, Nat.reduceLT, Nat.reduceLeDiff, Nat.reduceSub, Nat.reduceEqDiff, Nat.zero_add, Nat.add_zero, e3]
      refine ⟨trivial, T_in ?_⟩
      rw [k_bc (k_w0 (by omega))]
      refine k_ifT ⟨k, by omega, rfl⟩ (T_in (k_ifnT q2 ⟨fun z => T_MisKept hR.rw hk (k_if (fun u => ?_) (fun u => ?_)), fun z => T_said (by omega) (by omega) ?_⟩))
      · rw [h2 (by omega), k_bF u]; exact h _ _ _ hR
      · rw [h2 (by omega), k_bT u]; exact h _ _ _ hR
      · rw [← h1 (by omega)]; exact h _ _ _ hR
    simp (disch := omega) only [nI_clamp, nI_add, pk_mul, pk_sub, ↓pk_rem, pk_div, k_mod, k_m1, nI_ltI, nI_leI, nI_eq, k_n0lt, k_nle0, k_0ltn, k_0len, k_n0eq, k_vin, Nat.reduceAdd, Nat.reduceMul, Nat.reduceLT, Nat.reduceLeDiff, Nat.reduceSub, Nat.reduceEqDiff, Nat.zero_add, Nat.add_zero]
    refine ⟨fun z => ⟨trivial, ?_⟩, fun z => ⟨trivial, ?_⟩, fun z => ⟨trivial, ?_⟩, fun z0 z1 z2 => T_isKept hA hR.rw.q hk (k_if (fun u => ?_) (fun u => ?_))⟩
    · subst z; exact fin _ (fun _ => b1.symm) (fun z => absurd z (by decide))
    · subst z; exact fin _ (fun _ => b2.symm) (fun z => absurd z (by decide))
    · subst z; exact fin _ (fun _ => b3.symm) (fun z => absurd z (by decide))
    · exact fin _ (fun z => absurd (by omega) z) (fun _ => (k_bF u).symm)
    · exact fin _ (fun z => absurd (by omega) z) (fun _ => (k_bT u).symm)
  · refine vc_Md_promiseIs ?_
    simp (disch := omega) only [nI_clamp, nI_add, pk_mul, pk_sub, ↓pk_rem, pk_div, k_mod, k_m1, nI_ltI, nI_leI, nI_eq, k_n0lt, k_nle0, k_0ltn, k_0len, k_n0eq, k_vin, Nat.reduceAdd, Nat.reduceMul, Nat.reduceLT, Nat.reduceLeDiff, Nat.reduceSub, Nat.reduceEqDiff, Nat.zero_add, Nat.add_zero, e3]
    refine ⟨trivial, T_in ?_⟩
    rw [k_bc (k_wm (by omega))]
    exact k_ifT q (T_in (k_ifnF q2 (T_Merr1 (h _ _ _ (hR.err (by decide))))))
theorem P_seed (hR : RR σ τ) (h : ∀ v σ' τ', RR σ' τ' → Z v v σ' τ') : CallI E shC d mX10_seed [.ref 0, .int x1] σ (fun v σ' => CallI E' shR (d' + 1) mX11_seed [.ref 0, .int x1] τ (fun w τ' => Z v w σ' τ')) := by
  refine vc_SD_seed ?_
  rintro _ rfl
  refine vc_Md_seed (T_becomes (by decide) ?_)
  rw [hR.rw.rc.2.1]
  exact h _ _ _ (hR.now hR.rw.upZ (by unfold nT; rw [k_put_at, upd_ne (by decide)]; exact hR.1.2) (fun i hi => k_put_ne (by omega)))
theorem P_told (hR : RR σ τ) (h : ∀ v σ' τ', RR σ' τ' → Z v v σ' τ') : CallI E shC (d + 1) mX10_told [.ref 0, .int x1] σ (fun v σ' => CallI E' shR (d' + 1) mX11_told [.ref 0, .int x1] τ (fun w τ' => Z v w σ' τ')) := by
  refine vc_SD_told (T_isWithin (k_ifn (fun q => ?_) (fun q => T_err (by decide) ?_)))
  · obtain ⟨k, hk1, hk2, rfl⟩ := (k_wi (by decide) (by decide)).mp q
    simp (disch := omega) only [nI_clamp, nI_add, pk_mul, pk_sub, ↓pk_rem, pk_div, k_mod, k_m1, nI_ltI, nI_leI, nI_eq, k_n0lt, k_nle0, k_0ltn, k_0len, k_n0eq, k_vin, Nat.reduceAdd, Nat.reduceMul, Nat.reduceLT, Nat.reduceLeDiff, Nat.reduceSub, Nat.reduceEqDiff, Nat.zero_add, Nat.add_zero]
    refine ⟨trivial, vc_Md_told (T_in (k_ifT q ?_))⟩
    simp (disch := omega) only [nI_clamp, nI_add, pk_mul, pk_sub, ↓pk_rem, pk_div, k_mod, k_m1, nI_ltI, nI_leI, nI_eq, k_n0lt, k_nle0, k_0ltn, k_0len, k_n0eq, k_vin, Nat.reduceAdd, Nat.reduceMul, Nat.reduceLT, Nat.reduceLeDiff, Nat.reduceSub, Nat.reduceEqDiff, Nat.zero_add, Nat.add_zero]
    refine ⟨trivial, ?_⟩
    rw [hR.2.2.1 k (by omega)]
    exact h _ _ _ hR
  · exact vc_Md_told (T_in (k_ifF q (T_Merr1 (h _ _ _ (hR.err (by decide))))))
theorem T_isUse {x : Int32} (h : K (k_b (x = nI 0 ∨ x = nI 1)) σ) : CallI E S d mX10_isUse [.int x] σ K := by
  refine vc_SD_isUse ⟨fun q => ?_, fun q => ⟨fun q2 => ?_, fun q2 => ?_⟩⟩
  · rw [k_bT (show x = nI 0 ∨ x = nI 1 from Or.inl q)] at h; exact h
  · rw [k_bF (fun w => w.elim q q2)] at h; exact h
  · rw [k_bT (Or.inr q2)] at h; exact h
theorem k_w01 {x : Int32} : ((nI 0).toInt ≤ x.toInt ∧ x.toInt ≤ (nI 1).toInt) ↔ (x = nI 0 ∨ x = nI 1) := by
  rw [k_w0 (by decide)]
  constructor
  · rintro ⟨j, hj, rfl⟩
    rcases (by omega : j = 0 ∨ j = 1) with rfl | rfl
    · exact Or.inl rfl
    · exact Or.inr rfl
  · rintro (rfl | rfl)
    · exact ⟨0, by decide, rfl⟩
    · exact ⟨1, by decide, rfl⟩
theorem P_law (hR : RR σ τ) (h : ∀ v σ' τ', RR σ' τ' → Z v v σ' τ') : CallI E shC (d + 3) mX10_law [.ref 0, .int x1, .int x2, .int x3, .int x4] σ (fun v σ' => CallI E' shR (d' + 3) mX11_law [.ref 0, .int x1, .int x2, .int x3, .int x4] τ (fun w τ' => Z v w σ' τ')) := by
  have hx := hR.rw.x
  refine vc_SD_law (T_isUse (k_ifn (fun q => ?_) (fun q => T_err (by decide) ?_)))
  · rcases id q with rfl | rfl
    · refine T_useGives0 hx.iv (fun σ1 e1 => vc_Md_law (T_in (k_ifT (k_w01.mpr q) (T_Mgives (σ := σ) (Or.inl rfl) hx (fun τ1 f1 => ?_)))))
      exact h _ _ _ (hR.congr e1 f1)
    · refine T_useGives1 hx.iv (fun σ1 e1 => vc_Md_law (T_in (k_ifT (k_w01.mpr q) (T_Mgives (σ := σ) (Or.inr rfl) hx (fun τ1 f1 => ?_)))))
      exact h _ _ _ (hR.congr e1 f1)
  · exact vc_Md_law (T_in (k_ifF (fun z => q (k_w01.mp z)) (T_Merr1 (h _ _ _ (hR.err (by decide))))))
end P34

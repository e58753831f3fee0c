/-! promises 2 to 8: people, days -/
theorem k_ifT {P A B : Prop} (p : P) (b : B) : (k_b P = 0 → A) ∧ (¬ k_b P = 0 → B) := k_if (fun q => absurd p q) (fun _ => b)
theorem k_ifF {P A B : Prop} (p : ¬ P) (a : A) : (k_b P = 0 → A) ∧ (¬ k_b P = 0 → B) := k_if (fun _ => a) (fun q => absurd q p)
theorem k_ifnT {P A B : Prop} (p : P) (b : B) : (¬ k_b P = 0 → B) ∧ (k_b P = 0 → A) := k_ifn (fun _ => b) (fun q => absurd p q)
theorem k_ifnF {P A B : Prop} (p : ¬ P) (a : A) : (¬ k_b P = 0 → B) ∧ (k_b P = 0 → A) := k_ifn (fun q => absurd q p) (fun _ => a)
theorem RR.rw {σ τ : Sg} (h : RR σ τ) : RW σ (τ 1) := h.1.1
theorem RW.a {σ : Sg} {r : Nat → Int32} (h : RW σ r) : IvA σ := h.1
theorem RW.ra {σ : Sg} {r : Nat → Int32} (h : RW σ r) : RA σ r := h.2.1
theorem RW.q {σ : Sg} {r : Nat → Int32} (h : RW σ r) : IvQ σ := h.2.2.1
theorem RW.rq {σ : Sg} {r : Nat → Int32} (h : RW σ r) : RQ σ r := h.2.2.2.1
theorem RW.c {σ : Sg} {r : Nat → Int32} (h : RW σ r) : IvC σ := h.2.2.2.2.1
theorem RW.rc {σ : Sg} {r : Nat → Int32} (h : RW σ r) : RC σ r := h.2.2.2.2.2.1
theorem RW.b {σ : Sg} {r : Nat → Int32} (h : RW σ r) : RB σ r := h.2.2.2.2.2.2.1
theorem RW.x {σ : Sg} {r : Nat → Int32} (h : RW σ r) : RX σ r := h.2.2.2.2.2.2.2
theorem T_kmC {E : KE} {S : Shp} {d : Nat} {x : Int32} {σ : Sg} {K : Int32 → Sg → Prop} (h : K (k_b (k_lt x 70)) σ) : CallI E S d mX0_isKindAndNumber [.int x] σ K := by
  have e : k_lt x 70 ↔ ¬ x < 0 ∧ ¬ nI 70 ≤ x := by
    rw [k_lt_iff (by decide), k_lti, k_lei, nI_toInt (by decide)]; simp only [Int32.toInt_zero]; omega
  refine vc_Kinds_isKindAndNumber ⟨fun q => ?_, fun q => ⟨fun q2 => ?_, fun q2 => ?_⟩⟩
  · rw [k_bF (by rw [e]; exact fun z => z.1 q)] at h; exact h
  · rw [k_bF (by rw [e]; exact fun z => z.2 q2)] at h; exact h
  · rw [k_bT (by rw [e]; exact ⟨q, q2⟩)] at h; exact h
theorem T_isKind {E : KE} {S : Shp} {d : Nat} {x : Int32} {σ : Sg} {K : Int32 → Sg → Prop} (h : K (k_b (k_lt x 7)) σ) : CallI E S d mX0_isKind [.int x] σ K := by
  have e : k_lt x 7 ↔ ¬ x < 0 ∧ ¬ nI 7 ≤ x := by
    rw [k_lt_iff (by decide), k_lti, k_lei, nI_toInt (by decide)]; simp only [Int32.toInt_zero]; omega
  refine vc_Kinds_isKind ⟨fun q => ?_, fun q => ⟨fun q2 => ?_, fun q2 => ?_⟩⟩
  · rw [k_bF (by rw [e]; exact fun z => z.1 q)] at h; exact h
  · rw [k_bF (by rw [e]; exact fun z => z.2 q2)] at h; exact h
  · rw [k_bT (by rw [e]; exact ⟨q, q2⟩)] at h; exact h
theorem T_isKm {E : KE} {S : Shp} {d : Nat} {x : Int32} {σ : Sg} {K : Int32 → Sg → Prop} (h : K (k_b (k_lt x 70)) σ) : CallI E S (d + 1) mX11_isKm [.int x] σ K := by
  refine vc_Md_isKm (T_in ⟨k_b01, ?_⟩)
  rw [k_bc (k_w0 (by decide))]; exact h
theorem T_setKind {E : KE} {d p k : Nat} {σ : Sg} {K : Sg → Prop} (hp : p < 6) (hk : k < 70) (h : K (k_put (k_put σ 3 (upd (σ 3) p (nI (k / 10)))) 4 (upd (σ 4) p (nI (k % 10))))) : CallN E shC d mX1_setKind [.ref 2, .int (nI p), .int (nI k)] σ K := by
  refine vc_People_setKind ?_
  simp (disch := omega) only [nI_clamp, nI_add, pk_mul, pk_sub, ↓pk_rem, pk_div, k_mod, k_m1, nI_ltI, nI_leI, nI_eq, k_n0lt, k_nle0, k_0ltn, k_0len, k_n0eq, k_vin, Nat.reduceAdd, Nat.reduceMul, Nat.reduceLT, Nat.reduceLeDiff, Nat.reduceSub, Nat.reduceEqDiff, Nat.zero_add, Nat.add_zero]
  refine ⟨trivial, ?_⟩
  rintro _ rfl
  refine ⟨trivial, ?_⟩
  rintro _ rfl
  exact h
theorem T_dayIn {E : KE} {d k : Nat} {σ : Sg} {K : Int32 → Sg → Prop} (hC : IvC σ) (hk : k < 20000) (h : K (nI ((nT σ + k) % 28)) σ) : CallI E shC d mX9_dayIn [.ref 1, .int (nI k)] σ K := by
  obtain ⟨l, e⟩ := cl_lt hC.1 (by decide)
  refine vc_World_dayIn ?_
  have l : nT σ < 20000 := l
  have e : σ 1 6 = nI (nT σ) := e
  rw [e]
  simp (disch := omega) only [nI_clamp, nI_add, pk_mul, pk_sub, ↓pk_rem, pk_div, k_mod, k_m1, nI_ltI, nI_leI, nI_eq, k_n0lt, k_nle0, k_0ltn, k_0len, k_n0eq, k_vin, Nat.reduceAdd, Nat.reduceMul, Nat.reduceLT, Nat.reduceLeDiff, Nat.reduceSub, Nat.reduceEqDiff, Nat.zero_add, Nat.add_zero]
  exact h
section P30
variable {E E' : KE} {d d' : Nat} {x1 x2 x3 : Int32} {σ τ : Sg} {Z : Int32 → Int32 → Sg → Sg → Prop}
theorem P_has (hR : RR σ τ) (h : ∀ v σ' τ', RR σ' τ' → Z v v σ' τ') : CallI E shC (d + 2) mX10_has [.ref 0, .int x1, .int x2] σ (fun v σ' => CallI E' shR (d' + 3) mX11_has [.ref 0, .int x1, .int x2] τ (fun w τ' => Z v w σ' τ')) := by
  have hA := hR.rw.a
  have hRA := hR.rw.ra
  refine vc_SD_has (T_knows hA (k_if (fun q => T_err (by decide) ?_) (fun q => T_isDay (k_ifn (fun q2 => ?_) (fun q2 => T_err (by decide) ?_)))))
  · exact vc_Md_has (T_isPerson hA hRA (k_ifF q (T_Merr1 (h _ _ _ (hR.err (by decide))))))
  · obtain ⟨p, hp, rfl⟩ := id q
    obtain ⟨t, ht, rfl⟩ := id q2
    have hn := nP_le hA
    refine T_timesOf (by omega) ht (vc_Md_has (T_isPerson hA hRA (k_ifT q (T_MisDay (k_ifT q2 ?_)))))
    simp (disch := omega) only [nI_clamp, nI_add, pk_mul, pk_sub, ↓pk_rem, pk_div, k_mod, k_m1, nI_ltI, nI_leI, nI_eq, k_n0lt, k_nle0, k_0ltn, k_0len, k_n0eq, k_vin, Nat.reduceAdd, Nat.reduceMul, Nat.reduceLT, Nat.reduceLeDiff, Nat.reduceSub, Nat.reduceEqDiff, Nat.zero_add, Nat.add_zero]
    refine T_Mof (by omega) (by omega) ?_
    rw [(hRA.2 p (by omega)).2 t ht]
    exact h _ _ _ hR
  · exact vc_Md_has (T_isPerson hA hRA (k_ifT q (T_MisDay (k_ifF q2 (T_Merr1 (h _ _ _ (hR.err (by decide))))))))
theorem P_give (hR : RR σ τ) (h : ∀ v σ' τ', RR σ' τ' → Z v v σ' τ') : CallI E shC (d + 2) mX10_give [.ref 0, .int x1, .int x2, .int x3] σ (fun v σ' => CallI E' shR (d' + 3) mX11_give [.ref 0, .int x1, .int x2, .int x3] τ (fun w τ' => Z v w σ' τ')) := by
  have hA := hR.rw.a
  have hRA := hR.rw.ra
  refine vc_SD_give (T_knows hA (k_if (fun q => T_err (by decide) ?_) (fun q => T_isDay (k_if (fun q2 => T_err (by decide) ?_) (fun q2 => T_isWithin ?_)))))
  · exact vc_Md_give (T_isPerson hA hRA (k_ifF q (T_Merr1 (h _ _ _ (hR.err (by decide))))))
  · exact vc_Md_give (T_isPerson hA hRA (k_ifT q (T_MisDay (k_ifF q2 (T_Merr1 (h _ _ _ (hR.err (by decide))))))))
  · refine k_ifn (fun q3 => ?_) (fun q3 => T_err (by decide) ?_)
    · obtain ⟨p, hp, rfl⟩ := id q
      obtain ⟨t, ht, rfl⟩ := id q2
      have hn := nP_le hA
      refine T_timesOf (by omega) ht (T_setTimes (by omega) ht (vc_Md_give (T_isPerson hA hRA (k_ifT q (T_MisDay (k_ifT q2 (T_in (k_ifT q3 ?_))))))))
      simp (disch := omega) only [nI_clamp, nI_add, pk_mul, pk_sub, ↓pk_rem, pk_div, k_mod, k_m1, nI_ltI, nI_leI, nI_eq, k_n0lt, k_nle0, k_0ltn, k_0len, k_n0eq, k_vin, Nat.reduceAdd, Nat.reduceMul, Nat.reduceLT, Nat.reduceLeDiff, Nat.reduceSub, Nat.reduceEqDiff, Nat.zero_add, Nat.add_zero]
      refine T_becomes (by omega) ?_
      have e1 : 10 + 32 * p + 4 + t = 10 + 32 * p + (4 + t) := by omega
      rw [e1, (hRA.2 p (by omega)).2 t ht]
      rw [k_w0 (by decide)] at q3
      exact h _ _ _ (hR.now (hR.rw.up7 (by omega) ht q3) hR.1.2 (fun i hi => k_put_ne (by omega)))
    · exact vc_Md_give (T_isPerson hA hRA (k_ifT q (T_MisDay (k_ifT q2 (T_in (k_ifF q3 (T_Merr1 (h _ _ _ (hR.err (by decide))))))))))
theorem P_change (hR : RR σ τ) (h : ∀ v σ' τ', RR σ' τ' → Z v v σ' τ') : CallI E shC (d + 2) mX10_change [.ref 0, .int x1, .int x2, .int x3] σ (fun v σ' => CallI E' shR (d' + 3) mX11_change [.ref 0, .int x1, .int x2, .int x3] τ (fun w τ' => Z v w σ' τ')) := by
  have hA := hR.rw.a
  have hRA := hR.rw.ra
  refine vc_SD_change (T_knows hA (k_if (fun q => T_err (by decide) ?_) (fun q => T_isWithin (k_if (fun q2 => T_err (by decide) ?_) (fun q2 => T_isWithin (k_ifn (fun q3 => ?_) (fun q3 => T_err (by decide) ?_)))))))
  · exact vc_Md_change (T_isPerson hA hRA (k_ifF q (T_Merr1 (h _ _ _ (hR.err (by decide))))))
  · exact vc_Md_change (T_isPerson hA hRA (k_ifT q (T_in (k_ifF q2 (T_Merr1 (h _ _ _ (hR.err (by decide))))))))
  · obtain ⟨p, hp, rfl⟩ := id q
    obtain ⟨w, hw, rfl⟩ := (k_w0 (by decide)).mp q2
    have hv := (k_w0 (by decide)).mp q3
    have hn := nP_le hA
    obtain ⟨⟨a1, a2, a3, a4⟩, -⟩ := hRA.2 p (by omega)
    simp (disch := omega) only [nI_clamp, nI_add, pk_mul, pk_sub, ↓pk_rem, pk_div, k_mod, k_m1, nI_ltI, nI_leI, nI_eq, k_n0lt, k_nle0, k_0ltn, k_0len, k_n0eq, k_vin, Nat.reduceAdd, Nat.reduceMul, Nat.reduceLT, Nat.reduceLeDiff, Nat.reduceSub, Nat.reduceEqDiff, Nat.zero_add, Nat.add_zero]
    refine ⟨fun z => ⟨trivial, trivial, ?_⟩, fun z => ⟨trivial, trivial, ?_⟩⟩
    · rintro _ rfl
      have hw1 : w = 1 := by omega
      subst hw1
      refine vc_Md_change (T_isPerson hA hRA (k_ifT q (T_in (k_ifT q2 (T_in (k_ifT q3 ?_))))))
      simp (disch := omega) only [nI_clamp, nI_add, pk_mul, pk_sub, ↓pk_rem, pk_div, k_mod, k_m1, nI_ltI, nI_leI, nI_eq, k_n0lt, k_nle0, k_0ltn, k_0len, k_n0eq, k_vin, Nat.reduceAdd, Nat.reduceMul, Nat.reduceLT, Nat.reduceLeDiff, Nat.reduceSub, Nat.reduceEqDiff, Nat.zero_add, Nat.add_zero]
      refine T_becomes (by omega) ?_
      rw [show 10 + 32 * p + 2 + 1 = 10 + 32 * p + 3 by omega, a4]
      exact h _ _ _ (hR.now (hR.rw.up6 (by omega) hv) hR.1.2 (fun i hi => k_put_ne (by omega)))
    · rintro _ rfl
      subst z
      refine vc_Md_change (T_isPerson hA hRA (k_ifT q (T_in (k_ifT q2 (T_in (k_ifT q3 ?_))))))
      simp (disch := omega) only [nI_clamp, nI_add, pk_mul, pk_sub, ↓pk_rem, pk_div, k_mod, k_m1, nI_ltI, nI_leI, nI_eq, k_n0lt, k_nle0, k_0ltn, k_0len, k_n0eq, k_vin, Nat.reduceAdd, Nat.reduceMul, Nat.reduceLT, Nat.reduceLeDiff, Nat.reduceSub, Nat.reduceEqDiff, Nat.zero_add, Nat.add_zero]
      refine T_becomes (by omega) ?_
      rw [a3]
      exact h _ _ _ (hR.now (hR.rw.up5 (by omega) hv) hR.1.2 (fun i hi => k_put_ne (by omega)))
  · exact vc_Md_change (T_isPerson hA hRA (k_ifT q (T_in (k_ifT q2 (T_in (k_ifF q3 (T_Merr1 (h _ _ _ (hR.err (by decide))))))))))
theorem P_become (hR : RR σ τ) (h : ∀ v σ' τ', RR σ' τ' → Z v v σ' τ') : CallI E shC (d + 2) mX10_become [.ref 0, .int x1, .int x2] σ (fun v σ' => CallI E' shR (d' + 3) mX11_become [.ref 0, .int x1, .int x2] τ (fun w τ' => Z v w σ' τ')) := by
  have hA := hR.rw.a
  have hRA := hR.rw.ra
  refine vc_SD_become (T_knows hA (k_if (fun q => T_err (by decide) ?_) (fun q => T_kmC (k_ifn (fun q2 => ?_) (fun q2 => T_err (by decide) ?_)))))
  · exact vc_Md_become (T_isPerson hA hRA (k_ifF q (T_Merr1 (h _ _ _ (hR.err (by decide))))))
  · obtain ⟨p, hp, rfl⟩ := id q
    obtain ⟨k, hk, rfl⟩ := id q2
    have hn := nP_le hA
    obtain ⟨⟨a1, a2, a3, a4⟩, -⟩ := hRA.2 p (by omega)
    simp (disch := omega) only [nI_clamp, nI_add, pk_mul, pk_sub, ↓pk_rem, pk_div, k_mod, k_m1, nI_ltI, nI_leI, nI_eq, k_n0lt, k_nle0, k_0ltn, k_0len, k_n0eq, k_vin, Nat.reduceAdd, Nat.reduceMul, Nat.reduceLT, Nat.reduceLeDiff, Nat.reduceSub, Nat.reduceEqDiff, Nat.zero_add, Nat.add_zero]
    refine ⟨trivial, T_setKind (by omega) hk (vc_Md_become (T_isPerson hA hRA (k_ifT q (T_isKm (k_ifnT q2 ?_)))))⟩
    simp (disch := omega) only [nI_clamp, nI_add, pk_mul, pk_sub, ↓pk_rem, pk_div, k_mod, k_m1, nI_ltI, nI_leI, nI_eq, k_n0lt, k_nle0, k_0ltn, k_0len, k_n0eq, k_vin, Nat.reduceAdd, Nat.reduceMul, Nat.reduceLT, Nat.reduceLeDiff, Nat.reduceSub, Nat.reduceEqDiff, Nat.zero_add, Nat.add_zero]
    refine T_Mlay (by omega) (by omega) (T_becomes (by omega) ?_)
    rw [k_put_at, k_put_put, upd_ne (by omega), a1]
    have w1 := (hR.rw.up4 (p := p) (v := nI (k % 10)) (by omega) ⟨k % 10, by omega, rfl⟩).up3 (p := p) (v := nI (k / 10)) (by omega) ⟨k / 10, by omega, rfl⟩
    have ec : k_put (k_put σ 3 (upd (σ 3) p (nI (k / 10)))) 4 (upd (σ 4) p (nI (k % 10))) = k_put (k_put σ 4 (upd (σ 4) p (nI (k % 10)))) 3 (upd (k_put σ 4 (upd (σ 4) p (nI (k % 10))) 3) p (nI (k / 10))) := by
      funext i
      unfold k_put
      by_cases h3 : i = 3
      · subst h3; rfl
      · by_cases h4 : i = 4
        · subst h4; rfl
        · rw [if_neg h4, if_neg h3, if_neg h3, if_neg h4]
    rw [ec]
    exact h _ _ _ (hR.now w1 hR.1.2 (fun i hi => by rw [k_put_ne (by omega), k_put_ne (by omega)]))
  · exact vc_Md_become (T_isPerson hA hRA (k_ifT q (T_isKm (k_ifnF q2 (T_Merr1 (h _ _ _ (hR.err (by decide))))))))
theorem P_personIs (hR : RR σ τ) (h : ∀ v σ' τ', RR σ' τ' → Z v v σ' τ') : CallI E shC (d + 3) mX10_personIs [.ref 0, .int x1, .int x2] σ (fun v σ' => CallI E' shR (d' + 3) mX11_personIs [.ref 0, .int x1, .int x2] τ (fun w τ' => Z v w σ' τ')) := by
  have hA := hR.rw.a
  have hRA := hR.rw.ra
  have hC := hR.rw.c
  refine vc_SD_personIs (T_knows hA (k_if (fun q => T_err (by decide) ?_) (fun q => T_isWithin (k_ifn (fun q2 => ?_) (fun q2 => T_err (by decide) ?_)))))
  · exact vc_Md_personIs (T_isPerson hA hRA (k_ifF q (T_Merr1 (h _ _ _ (hR.err (by decide))))))
  · obtain ⟨p, hp, rfl⟩ := id q
    obtain ⟨w, hw, rfl⟩ := (k_w0 (by decide)).mp q2
    have hn := nP_le hA
    obtain ⟨⟨a1, a2, a3, a4⟩, -⟩ := hRA.2 p (by omega)
    have e6 : τ 1 0 = nI (nT σ) := hR.rw.rc.1.trans (cl_lt hC.1 (by decide)).2
    have l6 : nT σ < 20000 := (cl_lt hC.1 (by decide)).1
    have fin : ∀ v, (¬ w = 4 → v = τ 1 (10 + 32 * p + w)) → (w = 4 → v = lvF σ p (nT σ % 28)) → CallI E' shR (d' + 3) mX11_personIs [.ref 0, .int (nI p), .int (nI w)] τ (fun w' τ' => Z v w' σ τ') := by
      intro v h1 h2
      refine vc_Md_personIs (T_isPerson hA hRA (k_ifT q (T_in (k_ifnT q2 ?_))))
      simp (disch := omega) only [nI_clamp, nI_add, pk_mul, pk_sub, ↓pk_rem, pk_div, k_mod, k_m1, nI_ltI, nI_leI, nI_eq, k_n0lt, k_nle0, k_0ltn, k_0len, k_n0eq, k_vin, Nat.reduceAdd, Nat.reduceMul, Nat.reduceLT, Nat.reduceLeDiff, Nat.reduceSub, Nat.reduceEqDiff, Nat.zero_add, Nat.add_zero, e6]
      refine ⟨fun z => ⟨trivial, ?_⟩, fun z => T_Mof (by omega) (by omega) ?_⟩
      · refine T_MlivesOf hRA (by omega) (by omega) ?_
        rw [← h2 (by omega)]; exact h _ _ _ hR
      · rw [← h1 (by omega)]; exact h _ _ _ hR
    simp (disch := omega) only [nI_clamp, nI_add, pk_mul, pk_sub, ↓pk_rem, pk_div, k_mod, k_m1, nI_ltI, nI_leI, nI_eq, k_n0lt, k_nle0, k_0ltn, k_0len, k_n0eq, k_vin, Nat.reduceAdd, Nat.reduceMul, Nat.reduceLT, Nat.reduceLeDiff, Nat.reduceSub, Nat.reduceEqDiff, Nat.zero_add, Nat.add_zero]
    refine ⟨fun z => ⟨trivial, ?_⟩, fun z => ⟨trivial, ?_⟩, fun z => ⟨trivial, ?_⟩, fun z => ⟨trivial, ?_⟩, fun z0 z1 z2 z3 => ?_⟩
    · subst z; exact fin _ (fun _ => a1.symm) (fun z => absurd z (by decide))
    · subst z; exact fin _ (fun _ => a2.symm) (fun z => absurd z (by decide))
    · subst z; exact fin _ (fun _ => a3.symm) (fun z => absurd z (by decide))
    · subst z; exact fin _ (fun _ => a4.symm) (fun z => absurd z (by decide))
    · refine T_dayIn hC (by decide) (T_livesOf (by omega) (by omega) ?_)
      exact fin _ (fun z => absurd (by omega) z) (fun _ => by rw [Nat.add_zero])
  · exact vc_Md_personIs (T_isPerson hA hRA (k_ifT q (T_in (k_ifnF q2 (T_Merr1 (h _ _ _ (hR.err (by decide))))))))
end P30

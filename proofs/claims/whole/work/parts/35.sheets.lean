/-! promises 30 to 34: the trace, sheets -/
theorem RR.sh {σ σ' τ τ' : Sg} (h : RR σ τ) (hs : RS σ' τ') (e : ∀ i, (i < 60 ∨ 62 < i) → σ' i = σ i) (f : ∀ i, (i < 5 ∨ 7 < i) → τ' i = τ i) : RR σ' τ' := by
  obtain ⟨⟨h1, h2⟩, ⟨h3, h4⟩, h5, h6, h7⟩ := h
  have eI : ∀ i, i ∈ [1, 2, 3, 4, 5, 6, 7, 8, 9, 10, 11, 13, 14, 17, 18, 20, 21, 22, 23] → k_sh σ' i = k_sh σ i := fun i q => e (i + 23) (by
    have : 1 ≤ i ∧ i ≤ 23 := by revert i; decide
    omega)
  have eW : ∀ i, i ∈ [1, 2, 3, 4, 5, 6, 7, 8, 9, 10, 11, 13, 14, 17, 18, 20, 21, 22, 23] → σ' i = σ i := fun i q => e i (by
    have : 1 ≤ i ∧ i ≤ 23 := by revert i; decide
    omega)
  have e24 : k_sh σ' 1 = k_sh σ 1 := e 24 (by omega)
  refine ⟨⟨by rw [f 1 (by omega)]; exact h1.congr eW, by unfold nT; rw [e 1 (by omega)]; exact h2⟩, ⟨by rw [f 0 (by omega), e 0 (by omega)]; exact h3, ?_⟩, ?_, hs, ?_⟩
  · rw [e 0 (by omega), f 2 (by omega)]; intro q
    refine ⟨(h4 q).1.congr eI, ?_⟩
    have := (h4 q).2
    unfold nT at *
    rw [e24]; exact this
  · rw [f 4 (by omega), e 63 (by omega)]; exact h5
  · unfold RV at *
    rw [f 14 (by omega), f 0 (by omega), e 57 (by omega), e 58 (by omega)]; exact h7
/-- a row's part from 24 s on, made 0 -/
def zrF (f : Nat → Int32) (s : Nat) : Nat → Nat → Int32
  | 0 => f
  | k + 1 => upd (zrF f s k) (24 * s + k) (nI 0)
theorem zrF_eq {f g : Nat → Int32} {s : Nat} (h : ∀ j, j < 96 → f j = g j) : ∀ k, ∀ j, j < 96 → zrF f s k j = zrF g s k j
  | 0, j, hj => h j hj
  | k + 1, j, hj => by
    simp only [zrF]
    by_cases e : j = 24 * s + k
    · rw [e, upd_at, upd_at]
    · rw [upd_ne e, upd_ne e]; exact zrF_eq h k j hj
/-- an int less another one, in range -/
theorem k_subI {a b : Nat} (ha : a < 2 ^ 30) (hb : b < 2 ^ 31) : (nI a - nI b).toInt = (a : Int) - b := by
  rw [Int32.toInt_sub, nI_toInt (by omega), nI_toInt hb]
  apply Int.bmod_eq_of_le <;> omega
section P35
variable {E E' : KE} {S : Shp} {d d' : Nat} {x1 x2 x3 x4 x5 : Int32} {σ τ : Sg} {Z : Int32 → Int32 → Sg → Sg → Prop} {K : Int32 → Sg → Prop}
theorem T_isSheet {x : Int32} (h : K (k_b (k_lt x 4)) σ) : CallI E S d mX5_isSheet [.int x] σ K := by
  have e : k_lt x 4 ↔ ¬ x < 0 ∧ ¬ nI 4 ≤ x := by
    rw [k_lt_iff (by decide), k_lti, k_lei, nI_toInt (by decide)]; simp only [Int32.toInt_zero]; omega
  refine vc_Sheets_isSheet ⟨fun q => ?_, fun q => ⟨fun q2 => ?_, fun q2 => ?_⟩⟩
  · rw [k_bF (by rw [e]; exact fun z => z.1 q)] at h; exact h
  · rw [k_bF (by rw [e]; exact fun z => z.2 q2)] at h; exact h
  · rw [k_bT (by rw [e]; exact ⟨q, q2⟩)] at h; exact h
theorem T_MisSheet {x : Int32} (h : K (k_b (k_lt x 4)) σ) : CallI E S (d + 1) mX11_isSheet [.int x] σ K := by
  refine vc_Md_isSheet (T_in ?_)
  rw [k_bc (k_w0 (by decide))]
  exact ⟨k_b01, h⟩
theorem T_isMissing {s : Nat} (hs : s < 4) (h : K (k_b (σ 60 s = 0)) σ) : CallI E shC d mX5_isMissing [.ref 59, .int (nI s)] σ K := by
  refine vc_Sheets_isMissing ?_
  simp (disch := omega) only [nI_clamp, nI_add, pk_mul, pk_sub, ↓pk_rem, pk_div, k_mod, k_m1, nI_ltI, nI_leI, nI_eq, k_n0lt, k_nle0, k_0ltn, k_0len, k_n0eq, k_vin, Nat.reduceAdd, Nat.reduceMul, Nat.reduceLT, Nat.reduceLeDiff, Nat.reduceSub, Nat.reduceEqDiff, Nat.zero_add, Nat.add_zero]
  refine ⟨trivial, fun q => ?_, fun q => ?_⟩
  · rw [k_bF q] at h; exact h
  · rw [k_bT q] at h; exact h
theorem T_notThere {x : Int32} (h1 : ¬ k_lt x 4 → K (-1000000001 : Int32) τ) (h2 : ∀ s, s < 4 → x = nI s → τ 5 s = 0 → K (-1000000002 : Int32) τ) (h3 : ∀ s, s < 4 → x = nI s → ¬ τ 5 s = 0 → K (nI 0) τ) : CallI E shR (d + 2) mX11_notThere [.ref 0, .int x] τ K := by
  refine vc_Md_notThere (T_MisSheet (k_ifn (fun q => ?_) (fun q => h1 q)))
  obtain ⟨s, hs, rfl⟩ := q
  simp (disch := omega) only [nI_clamp, nI_add, pk_mul, pk_sub, ↓pk_rem, pk_div, k_mod, k_m1, nI_ltI, nI_leI, nI_eq, k_n0lt, k_nle0, k_0ltn, k_0len, k_n0eq, k_vin, Nat.reduceAdd, Nat.reduceMul, Nat.reduceLT, Nat.reduceLeDiff, Nat.reduceSub, Nat.reduceEqDiff, Nat.zero_add, Nat.add_zero]
  exact ⟨trivial, fun q => h3 s hs rfl q, fun q => h2 s hs rfl q⟩
theorem P_body (hR : RR σ τ) (h : ∀ v σ' τ', RR σ' τ' → Z v v σ' τ') : CallI E shC (d + 1) mX10_body [.ref 0, .int x1] σ (fun v σ' => CallI E' shR (d' + 1) mX11_body [.ref 0, .int x1] τ (fun w τ' => Z v w σ' τ')) := by
  obtain ⟨⟨⟨n, hn, e1⟩, e2⟩, e3⟩ := hR.2.2.2.2
  refine vc_SD_body ?_
  rw [e1]
  refine T_isWithin ?_
  rw [k_bc (k_wm (by omega))]
  refine k_ifn (fun q => ?_) (fun q => T_err (by decide) ?_)
  · obtain ⟨k, hk, rfl⟩ := id q
    simp (disch := omega) only [nI_clamp, nI_add, pk_mul, pk_sub, ↓pk_rem, pk_div, k_mod, k_m1, nI_ltI, nI_leI, nI_eq, k_n0lt, k_nle0, k_0ltn, k_0len, k_n0eq, k_vin, Nat.reduceAdd, Nat.reduceMul, Nat.reduceLT, Nat.reduceLeDiff, Nat.reduceSub, Nat.reduceEqDiff, Nat.zero_add, Nat.add_zero]
    refine ⟨trivial, vc_Md_body ?_⟩
    rw [e2, e1]
    refine T_in ?_
    rw [k_bc (k_wm (by omega))]
    refine k_ifT q ?_
    simp (disch := omega) only [nI_clamp, nI_add, pk_mul, pk_sub, ↓pk_rem, pk_div, k_mod, k_m1, nI_ltI, nI_leI, nI_eq, k_n0lt, k_nle0, k_0ltn, k_0len, k_n0eq, k_vin, Nat.reduceAdd, Nat.reduceMul, Nat.reduceLT, Nat.reduceLeDiff, Nat.reduceSub, Nat.reduceEqDiff, Nat.zero_add, Nat.add_zero]
    refine ⟨trivial, ?_⟩
    rw [e3 k (by omega)]
    exact h _ _ _ hR
  · refine vc_Md_body ?_
    rw [e2, e1]
    refine T_in ?_
    rw [k_bc (k_wm (by omega))]
    exact k_ifF q (T_Merr2 (h _ _ _ (hR.err (by decide))))
theorem T_renew {s : Nat} {b n : Int32} {K : Sg → Prop} (hs : s < 4) (h : K (k_put (k_put (k_put σ 60 (upd (σ 60) s b)) 61 (upd (σ 61) s n)) 62 (zrF (σ 62) s 24))) : CallN E shC d mX5_renew [.ref 59, .int (nI s), .int b, .int n] σ K := by
  refine vc_Sheets_renew ?_
  simp (disch := omega) only [nI_clamp, nI_add, pk_mul, pk_sub, ↓pk_rem, pk_div, k_mod, k_m1, nI_ltI, nI_leI, nI_eq, k_n0lt, k_nle0, k_0ltn, k_0len, k_n0eq, k_vin, Nat.reduceAdd, Nat.reduceMul, Nat.reduceLT, Nat.reduceLeDiff, Nat.reduceSub, Nat.reduceEqDiff, Nat.zero_add, Nat.add_zero]
  refine ⟨trivial, ?_⟩
  rintro _ rfl
  refine ⟨trivial, ?_⟩
  rintro _ rfl
  have loop : ∀ r k, k + r = 24 → WP E shC mX5_renew d 17 [some (.ref 59), some (.int (nI s)), none, none, some (.int (nI k))] [] (k_put (k_put (k_put σ 60 (upd (σ 60) s b)) 61 (upd (σ 61) s n)) 62 (zrF (σ 62) s k)) (k_qn K) := by
    intro r
    induction r with
    | zero =>
      intro k hk
      have e : k = 24 := by omega
      subst e
      apply vb_Sheets_renew_17
      exact ⟨fun _ => h, fun q => absurd (Int32.le_refl _) q⟩
    | succ r ih =>
      intro k hk
      apply vb_Sheets_renew_17
      simp (disch := omega) only [nI_clamp, nI_add, pk_mul, pk_sub, ↓pk_rem, pk_div, k_mod, k_m1, nI_ltI, nI_leI, nI_eq, k_n0lt, k_nle0, k_0ltn, k_0len, k_n0eq, k_vin, Nat.reduceAdd, Nat.reduceMul, Nat.reduceLT, Nat.reduceLeDiff, Nat.reduceSub, Nat.reduceEqDiff, Nat.zero_add, Nat.add_zero]
      refine ⟨fun q => absurd q (by omega), fun _ => ⟨trivial, ?_⟩⟩
      rintro _ rfl
      rw [k_put_put, k_put_at, Nat.mul_comm s 24]
      exact ih (k + 1) (by omega)
  have e := loop 24 0 rfl
  have e2 : k_put (k_put (k_put σ 60 (upd (σ 60) s b)) 61 (upd (σ 61) s n)) 62 (zrF (σ 62) s 0) = k_put (k_put σ 60 (upd (σ 60) s b)) 61 (upd (σ 61) s n) := by
    funext i
    unfold k_put
    by_cases h : i = 62
    · subst h; rfl
    · rw [if_neg h]
  rw [e2] at e
  exact e
theorem RS.renew {s : Nat} {b n : Int32} (h : RS σ τ) (hs : s < 4) (hn : k_lt n 25) : RS (k_put (k_put (k_put σ 60 (upd (σ 60) s b)) 61 (upd (σ 61) s n)) 62 (zrF (σ 62) s 24)) (k_put (k_put (k_put τ 5 (upd (τ 5) s b)) 6 (upd (τ 6) s n)) 7 (zrF (τ 7) s 24)) := by
  refine ⟨fun k hk => ?_, fun j hj => zrF_eq h.2 24 j hj⟩
  obtain ⟨a1, a2, a3⟩ := h.1 k hk
  show upd (τ 5) s b k = upd (σ 60) s b k ∧ upd (τ 6) s n k = upd (σ 61) s n k ∧ k_lt (upd (σ 61) s n k) 25
  by_cases e : k = s
  · subst e; simp only [upd_at]; exact ⟨trivial, trivial, hn⟩
  · simp only [upd_ne e]; exact ⟨a1, a2, a3⟩
theorem P_sheet (hR : RR σ τ) (h : ∀ v σ' τ', RR σ' τ' → Z v v σ' τ') : CallI E shC (d + 2) mX10_sheet [.ref 0, .int x1, .int x2, .int x3] σ (fun v σ' => CallI E' shR (d' + 3) mX11_sheet [.ref 0, .int x1, .int x2, .int x3] τ (fun w τ' => Z v w σ' τ')) := by
  have hS := hR.2.2.2.1
  refine vc_SD_sheet (T_isSheet (k_if (fun q => T_err (by decide) ?_) (fun q => ?_)))
  · exact vc_Md_sheet (T_MisSheet (k_ifF q (T_Merr1 (h _ _ _ (hR.err (by decide))))))
  obtain ⟨s, hs, rfl⟩ := id q
  -- the reference, behind its first test
  have toR : ∀ {v : Int32} {σ' : Sg}, (x2 = 0 ∨ x2 = nI 8 ∨ x2 = nI 16 ∨ x2 = nI 32) → WP E' shR mX11_sheet (d' + 2 + 1) 36 [some (.ref 0), some (.int (nI s)), some (.int x2), some (.int x3), none] [] τ (k_qi fun w τ' => Z v w σ' τ') → CallI E' shR (d' + 3) mX11_sheet [.ref 0, .int (nI s), .int x2, .int x3] τ (fun w τ' => Z v w σ' τ') := by
    intro v σ' hb w
    refine vc_Md_sheet (T_MisSheet (k_ifT q ⟨fun _ => w, fun z0 => ⟨fun _ => w, fun z1 => ⟨fun _ => w, fun z2 => ⟨fun _ => w, fun z3 => ?_⟩⟩⟩⟩))
    rcases hb with z | z | z | z
    · exact absurd z z0
    · exact absurd z z1
    · exact absurd z z2
    · exact absurd z z3
  have loopR : ∀ {v : Int32} {σ' : Sg} (b n : Int32), Z v (nI 1) σ' (k_put (k_put (k_put τ 5 (upd (τ 5) s b)) 6 (upd (τ 6) s n)) 7 (zrF (τ 7) s 24)) → WP E' shR mX11_sheet (d' + 2 + 1) 93 [some (.ref 0), some (.int (nI s)), none, none, some (.int (nI 0))] [] (k_put (k_put τ 5 (upd (τ 5) s b)) 6 (upd (τ 6) s n)) (k_qi fun w τ' => Z v w σ' τ') := by
    intro v σ' b n hz
    have loop : ∀ r k, k + r = 24 → WP E' shR mX11_sheet (d' + 2 + 1) 93 [some (.ref 0), some (.int (nI s)), none, none, some (.int (nI k))] [] (k_put (k_put (k_put τ 5 (upd (τ 5) s b)) 6 (upd (τ 6) s n)) 7 (zrF (τ 7) s k)) (k_qi fun w τ' => Z v w σ' τ') := by
      intro r
      induction r with
      | zero =>
        intro k hk
        have e : k = 24 := by omega
        subst e
        apply vb_Md_sheet_93
        exact ⟨fun _ => hz, fun q => absurd (Int32.le_refl _) q⟩
      | succ r ih =>
        intro k hk
        apply vb_Md_sheet_93
        simp (disch := omega) only [nI_clamp, nI_add, pk_mul, pk_sub, ↓pk_rem, pk_div, k_mod, k_m1, nI_ltI, nI_leI, nI_eq, k_n0lt, k_nle0, k_0ltn, k_0len, k_n0eq, k_vin, Nat.reduceAdd, Nat.reduceMul, Nat.reduceLT, Nat.reduceLeDiff, Nat.reduceSub, Nat.reduceEqDiff, Nat.zero_add, Nat.add_zero]
        refine ⟨fun q => absurd q (by omega), fun _ => ⟨trivial, ?_⟩⟩
        rintro _ rfl
        rw [k_put_put, k_put_at]
        exact ih (k + 1) (by omega)
    have e := loop 24 0 rfl
    have e2 : k_put (k_put (k_put τ 5 (upd (τ 5) s b)) 6 (upd (τ 6) s n)) 7 (zrF (τ 7) s 0) = k_put (k_put τ 5 (upd (τ 5) s b)) 6 (upd (τ 6) s n) := by
      funext i
      unfold k_put
      by_cases h : i = 7
      · subst h; rfl
      · rw [if_neg h]
    rw [e2] at e
    exact e
  have fin : ∀ b n, k_lt n 25 → Z (nI 1) (nI 1) (k_put (k_put (k_put σ 60 (upd (σ 60) s b)) 61 (upd (σ 61) s n)) 62 (zrF (σ 62) s 24)) (k_put (k_put (k_put τ 5 (upd (τ 5) s b)) 6 (upd (τ 6) s n)) 7 (zrF (τ 7) s 24)) := by
    intro b n hn
    refine h _ _ _ (hR.sh (hS.renew hs hn) (fun i hi => ?_) (fun i hi => ?_))
    · rw [k_put_ne (by omega), k_put_ne (by omega), k_put_ne (by omega)]
    · rw [k_put_ne (by omega), k_put_ne (by omega), k_put_ne (by omega)]
  -- no bits
  have zero : x2 = 0 → CallN E shC (d + 1) mX5_renew [.ref 59, .int (nI s), .int (nI 0), .int (nI 0)] σ (fun σ' => CallI E' shR (d' + 3) mX11_sheet [.ref 0, .int (nI s), .int x2, .int x3] τ (fun w τ' => Z (nI 1) w σ' τ')) := by
    intro z
    refine T_renew hs (toR (Or.inl z) ?_)
    subst z
    apply vb_Md_sheet_36
    simp (disch := omega) only [nI_clamp, nI_add, pk_mul, pk_sub, ↓pk_rem, pk_div, k_mod, k_m1, nI_ltI, nI_leI, nI_eq, k_n0lt, k_nle0, k_0ltn, k_0len, k_n0eq, k_vin, Nat.reduceAdd, Nat.reduceMul, Nat.reduceLT, Nat.reduceLeDiff, Nat.reduceSub, Nat.reduceEqDiff, Nat.zero_add, Nat.add_zero]
    have le : (0 : Int32) ≤ 0 := Int32.le_refl _
    refine ⟨fun _ => ⟨fun _ => ⟨trivial, ?_⟩, fun z => absurd le z⟩, fun z => absurd le z⟩
    rintro _ rfl
    refine ⟨fun z => by first | exact absurd rfl z | exact absurd trivial z, fun _ => ⟨trivial, ?_⟩⟩
    rintro _ rfl
    exact loopR 0 (nI 0) (fin 0 (nI 0) ⟨0, by decide, rfl⟩)
  -- some bits
  have some_ : (x2 = nI 8 ∨ x2 = nI 16 ∨ x2 = nI 32) → ((0 ≤ x3 → (x3 ≤ (nI 24) → CallN E shC (d + 1) mX5_renew [.ref 59, .int (nI s), .int x2, .int x3] σ (fun σ' => CallI E' shR (d' + 3) mX11_sheet [.ref 0, .int (nI s), .int x2, .int x3] τ (fun w τ' => Z (nI 1) w σ' τ'))) ∧ (¬ x3 ≤ (nI 24) → CallI E shC (d + 1) mX10_error [.ref 0, .int (nI 1)] σ (fun v σ' => CallI E' shR (d' + 3) mX11_sheet [.ref 0, .int (nI s), .int x2, .int x3] τ (fun w τ' => Z v w σ' τ')))) ∧ (¬ 0 ≤ x3 → CallI E shC (d + 1) mX10_error [.ref 0, .int (nI 3)] σ (fun v σ' => CallI E' shR (d' + 3) mX11_sheet [.ref 0, .int (nI s), .int x2, .int x3] τ (fun w τ' => Z v w σ' τ')))) := by
    intro hb
    have hpos : ¬ x2 ≤ 0 := by rcases hb with rfl | rfl | rfl <;> decide
    have hne : ¬ x2 = 0 := by rcases hb with rfl | rfl | rfl <;> decide
    refine ⟨fun a1 => ⟨fun a2 => T_renew hs (toR (Or.inr hb) ?_), fun a2 => T_err (by decide) (toR (Or.inr hb) ?_)⟩, fun a1 => T_err (by decide) (toR (Or.inr hb) ?_)⟩
    · have hn : k_lt x3 25 := by
        rw [k_lt_iff (by decide)]
        rw [k_lei] at a1 a2
        rw [nI_toInt (by decide)] at a2
        simp only [Int32.toInt_zero] at a1
        omega
      apply vb_Md_sheet_36
      simp (disch := omega) only [nI_clamp, nI_add, pk_mul, pk_sub, ↓pk_rem, pk_div, k_mod, k_m1, nI_ltI, nI_leI, nI_eq, k_n0lt, k_nle0, k_0ltn, k_0len, k_n0eq, k_vin, Nat.reduceAdd, Nat.reduceMul, Nat.reduceLT, Nat.reduceLeDiff, Nat.reduceSub, Nat.reduceEqDiff, Nat.zero_add, Nat.add_zero]
      refine ⟨fun z => absurd z hpos, fun _ => ⟨fun _ => ⟨fun z => absurd z hpos, fun _ => ⟨fun _ => ⟨trivial, ?_⟩, fun z => absurd a2 z⟩⟩, fun z => absurd a1 z⟩⟩
      rintro _ rfl
      refine ⟨fun _ => ⟨trivial, ?_⟩, fun z => absurd z hne⟩
      rintro _ rfl
      exact loopR x2 x3 (fin x2 x3 hn)
    · apply vb_Md_sheet_36
      exact ⟨fun z => absurd z hpos, fun _ => ⟨fun _ => ⟨fun z => absurd z hpos, fun _ => ⟨fun z => absurd z a2, fun _ => T_Merr1 (h _ _ _ (hR.err (by decide)))⟩⟩, fun z => absurd a1 z⟩⟩
    · apply vb_Md_sheet_36
      exact ⟨fun z => absurd z hpos, fun _ => ⟨fun z => absurd z a1, fun _ => T_Merr3 (h _ _ _ (hR.err (by decide)))⟩⟩
  refine ⟨fun z => ⟨fun z2 => absurd z z2, fun _ => zero z⟩, fun z0 => ⟨fun z => ⟨fun _ => some_ (Or.inl z), fun z2 => absurd z2 z0⟩, fun z1 => ⟨fun z => ⟨fun _ => some_ (Or.inr (Or.inl z)), fun z2 => absurd z2 z0⟩, fun z2 => ⟨fun z => ⟨fun _ => some_ (Or.inr (Or.inr z)), fun z2 => absurd z2 z0⟩, fun z3 => T_err (by decide) ?_⟩⟩⟩⟩
  refine vc_Md_sheet (T_MisSheet (k_ifT q ⟨fun z => absurd z z0, fun _ => ⟨fun z => absurd z z1, fun _ => ⟨fun z => absurd z z2, fun _ => ⟨fun z => absurd z z3, fun _ => T_Merr1 (h _ _ _ (hR.err (by decide)))⟩⟩⟩⟩))
theorem P_put (hR : RR σ τ) (h : ∀ v σ' τ', RR σ' τ' → Z v v σ' τ') : CallI E shC (d + 2) mX10_put [.ref 0, .int x1, .int x2, .int x3] σ (fun v σ' => CallI E' shR (d' + 3) mX11_put [.ref 0, .int x1, .int x2, .int x3] τ (fun w τ' => Z v w σ' τ')) := by
  have hS := hR.2.2.2.1
  have ne1 : ¬ (-1000000001 : Int32) = 0 := by decide
  have ne2 : ¬ (-1000000002 : Int32) = 0 := by decide
  refine vc_SD_put (T_isSheet (k_ifn (fun q => ?_) (fun q => T_err (by decide) ?_)))
  · obtain ⟨s, hs, rfl⟩ := id q
    obtain ⟨b1, b2, ⟨n, hn, b3⟩⟩ := hS.1 s hs
    have sc : ∀ {t : Nat}, t < 4 → nI s = nI t → t = s := fun ht e => ((nI_eq (by omega) (by omega)).mp e).symm
    refine T_isMissing hs (k_if (fun q2 => ?_) (fun q2 => T_err (by decide) ?_))
    · simp (disch := omega) only [nI_clamp, nI_add, pk_mul, pk_sub, ↓pk_rem, pk_div, k_mod, k_m1, nI_ltI, nI_leI, nI_eq, k_n0lt, k_nle0, k_0ltn, k_0len, k_n0eq, k_vin, Nat.reduceAdd, Nat.reduceMul, Nat.reduceLT, Nat.reduceLeDiff, Nat.reduceSub, Nat.reduceEqDiff, Nat.zero_add, Nat.add_zero, b3]
      refine ⟨trivial, T_isWithin ?_⟩
      rw [k_bc (k_wm (by omega))]
      refine k_ifn (fun q3 => ?_) (fun q3 => T_err (by decide) ?_)
      · obtain ⟨i, hi, rfl⟩ := id q3
        -- what the reference's put is, from the three stores
        have ref : ∀ (w : Int32), (∀ f : Nat → Int32, (if σ 60 s = nI 8 then f 8 else if σ 60 s = nI 16 then f 16 else f 0) = w → True) → True := fun _ _ => trivial
        have fin : ∀ w, RR (k_put σ 62 (upd (σ 62) (s * 24 + i) w)) (k_put τ 7 (upd (τ 7) (24 * s + i) w)) := by
          intro w
          refine hR.sh ⟨fun k hk => hS.1 k hk, fun j hj => ?_⟩ (fun i hi => k_put_ne (by omega)) (fun i hi => k_put_ne (by omega))
          rw [k_put_at, k_put_at, Nat.mul_comm s 24]
          by_cases e : j = 24 * s + i
          · rw [e, upd_at, upd_at]
          · rw [upd_ne e, upd_ne e]; exact hS.2 j hj
        refine vc_Sheets_setNumber ?_
        simp (disch := omega) only [nI_clamp, nI_add, pk_mul, pk_sub, ↓pk_rem, pk_div, k_mod, k_m1, nI_ltI, nI_leI, nI_eq, k_n0lt, k_nle0, k_0ltn, k_0len, k_n0eq, k_vin, Nat.reduceAdd, Nat.reduceMul, Nat.reduceLT, Nat.reduceLeDiff, Nat.reduceSub, Nat.reduceEqDiff, Nat.zero_add, Nat.add_zero]
        have toR : ∀ {σ' : Sg}, (vp_in (nI s) 4 ∧ ((¬ (σ 60 s) = nI 8 → vp_in (nI s) 4 ∧ ((¬ (σ 60 s) = nI 16 → vp_in (nI 24 * nI s + nI i) 96 ∧ (∀ σ3, σ3 = k_put τ 7 (upd (τ 7) (24 * s + i) x3) → Z (nI 1) (nI 1) σ' σ3)) ∧ ((σ 60 s) = nI 16 → vp_in (nI 24 * nI s + nI i) 96 ∧ (∀ σ5, σ5 = k_put τ 7 (upd (τ 7) (24 * s + i) x3.toInt16.toInt32) → Z (nI 1) (nI 1) σ' σ5)))) ∧ ((σ 60 s) = nI 8 → vp_in (nI 24 * nI s + nI i) 96 ∧ (∀ σ7, σ7 = k_put τ 7 (upd (τ 7) (24 * s + i) x3.toInt8.toInt32) → Z (nI 1) (nI 1) σ' σ7)))) → CallI E' shR (d' + 3) mX11_put [.ref 0, .int (nI s), .int (nI i), .int x3] τ (fun w τ' => Z (nI 1) w σ' τ') := by
          intro σ' w
          simp (disch := omega) only [nI_clamp, nI_add, pk_mul, pk_sub, ↓pk_rem, pk_div, k_mod, k_m1, nI_ltI, nI_leI, nI_eq, k_n0lt, k_nle0, k_0ltn, k_0len, k_n0eq, k_vin, Nat.reduceAdd, Nat.reduceMul, Nat.reduceLT, Nat.reduceLeDiff, Nat.reduceSub, Nat.reduceEqDiff, Nat.zero_add, Nat.add_zero] at w
          refine vc_Md_put (T_notThere (fun z => absurd q z) (fun t ht et z => absurd (by rw [sc ht et] at z; rw [← b1]; exact z) q2) (fun t ht et z => ⟨fun z => absurd rfl z, fun _ => ?_⟩))
          simp (disch := omega) only [nI_clamp, nI_add, pk_mul, pk_sub, ↓pk_rem, pk_div, k_mod, k_m1, nI_ltI, nI_leI, nI_eq, k_n0lt, k_nle0, k_0ltn, k_0len, k_n0eq, k_vin, Nat.reduceAdd, Nat.reduceMul, Nat.reduceLT, Nat.reduceLeDiff, Nat.reduceSub, Nat.reduceEqDiff, Nat.zero_add, Nat.add_zero, b1, b2, b3]
          have hin : ((nI 0).toInt ≤ (nI i).toInt ∧ (nI i).toInt ≤ (nI (n - 1)).toInt) := (k_w0 (by omega)).mpr ⟨i, by omega, rfl⟩
          refine ⟨trivial, T_in (k_ifnT hin ⟨fun _ => by rw [b1]; exact w, fun z => by first | exact absurd rfl z | exact absurd trivial z⟩)⟩
        refine ⟨trivial, fun z1 => ⟨trivial, fun z2 => ⟨trivial, ?_⟩, fun z2 => ⟨trivial, ?_⟩⟩, fun z1 => ⟨trivial, ?_⟩⟩
        · rintro _ rfl
          refine toR ?_
          simp (disch := omega) only [nI_clamp, nI_add, pk_mul, pk_sub, ↓pk_rem, pk_div, k_mod, k_m1, nI_ltI, nI_leI, nI_eq, k_n0lt, k_nle0, k_0ltn, k_0len, k_n0eq, k_vin, Nat.reduceAdd, Nat.reduceMul, Nat.reduceLT, Nat.reduceLeDiff, Nat.reduceSub, Nat.reduceEqDiff, Nat.zero_add, Nat.add_zero]
          refine ⟨trivial, fun _ => ⟨trivial, fun _ => ⟨trivial, ?_⟩, fun z => absurd z z2⟩, fun z => absurd z z1⟩
          rintro _ rfl
          exact h _ _ _ (fin _)
        · rintro _ rfl
          refine toR ?_
          simp (disch := omega) only [nI_clamp, nI_add, pk_mul, pk_sub, ↓pk_rem, pk_div, k_mod, k_m1, nI_ltI, nI_leI, nI_eq, k_n0lt, k_nle0, k_0ltn, k_0len, k_n0eq, k_vin, Nat.reduceAdd, Nat.reduceMul, Nat.reduceLT, Nat.reduceLeDiff, Nat.reduceSub, Nat.reduceEqDiff, Nat.zero_add, Nat.add_zero]
          refine ⟨trivial, fun _ => ⟨trivial, fun z => absurd z2 z, fun _ => ⟨trivial, ?_⟩⟩, fun z => absurd z z1⟩
          rintro _ rfl
          exact h _ _ _ (fin _)
        · rintro _ rfl
          refine toR ?_
          simp (disch := omega) only [nI_clamp, nI_add, pk_mul, pk_sub, ↓pk_rem, pk_div, k_mod, k_m1, nI_ltI, nI_leI, nI_eq, k_n0lt, k_nle0, k_0ltn, k_0len, k_n0eq, k_vin, Nat.reduceAdd, Nat.reduceMul, Nat.reduceLT, Nat.reduceLeDiff, Nat.reduceSub, Nat.reduceEqDiff, Nat.zero_add, Nat.add_zero]
          refine ⟨trivial, fun z => absurd z1 z, fun _ => ⟨trivial, ?_⟩⟩
          rintro _ rfl
          exact h _ _ _ (fin _)
      · refine vc_Md_put (T_notThere (fun z => absurd q z) (fun t ht et z => absurd (by rw [sc ht et] at z; rw [← b1]; exact z) q2) (fun t ht et z => ⟨fun z => absurd rfl z, fun _ => ?_⟩))
        simp (disch := omega) only [nI_clamp, nI_add, pk_mul, pk_sub, ↓pk_rem, pk_div, k_mod, k_m1, nI_ltI, nI_leI, nI_eq, k_n0lt, k_nle0, k_0ltn, k_0len, k_n0eq, k_vin, Nat.reduceAdd, Nat.reduceMul, Nat.reduceLT, Nat.reduceLeDiff, Nat.reduceSub, Nat.reduceEqDiff, Nat.zero_add, Nat.add_zero, b2, b3]
        refine ⟨trivial, T_in ?_⟩
        rw [k_bc (k_wm (by omega))]
        exact k_ifnF q3 ⟨fun z => absurd z ne1, fun _ => T_Merr1 (h _ _ _ (hR.err (by decide)))⟩
    · exact vc_Md_put (T_notThere (fun z => absurd q z) (fun t ht et z => ⟨fun _ => ⟨fun z => absurd z ne2, fun _ => T_Merr2 (h _ _ _ (hR.err (by decide)))⟩, fun z => absurd z ne2⟩) (fun t ht et z => absurd (by rw [sc ht et, b1]; exact q2) z))
  · exact vc_Md_put (T_notThere (fun _ => ⟨fun _ => ⟨fun z => absurd z ne1, fun _ => T_Merr1 (h _ _ _ (hR.err (by decide)))⟩, fun z => absurd z ne1⟩) (fun t ht et z => absurd ⟨t, ht, et⟩ q) (fun t ht et z => absurd ⟨t, ht, et⟩ q))
end P35

/-! promises 14, 15: the system's reader does what the parser does -/
def CSok (B : Sg) (u pl : Nat) (c : List Nat) (σ : Sg) : Prop := (∀ i, i ≠ 47 → i ≠ 48 → i ≠ 49 → σ i = B i) ∧ σ 47 2 = nI u ∧ σ 47 3 = nI pl ∧ σ 47 4 = (-1 : Int32) ∧ σ 48 1 = nI c.length ∧ ∀ j, j < c.length → σ 49 j = nI (c.getD j 0)
def CSbad (B : Sg) (f : Nat) (σ : Sg) : Prop := (∀ i, i ≠ 47 → i ≠ 48 → i ≠ 49 → σ i = B i) ∧ σ 47 4 = nI f ∧ k_lt (σ 48 1) 61
def CPost (B : Sg) (u : Nat) (c : List Nat) (r : Res) (L : Sg → Prop) : Prop := (r.1 = true → ∀ σ', CSok B u r.2.1 (c ++ r.2.2) σ' → L σ') ∧ (¬ r.1 = true → ∀ σ', CSbad B r.2.1 σ' → L σ')
theorem ne_m1 {f : Nat} (h : f < 2 ^ 31) : ¬ nI f = (-1 : Int32) := fun e => by
  have t1 : (nI f).toInt = (-1 : Int32).toInt := by rw [e]
  rw [nI_toInt h] at t1
  have t2 : (-1 : Int32).toInt = -1 := by decide
  omega
section P51
variable {E : KE} {S : Shp} {d u n pl : Nat} {c : List Nat} {B σ : Sg} {K : Int32 → Sg → Prop} {L : Sg → Prop}
theorem T_here (hB : B 50 1 = nI n) (hn : n ≤ 60) (h : CSok B u pl c σ) (hpl : pl ≤ n) (hK : K (hrF (B 51) n pl) σ) : CallI E shC d mX3_here [.ref 47] σ K := by
  obtain ⟨h1, h2, h3, h4, h5, h6⟩ := h
  refine vc_Reader_here ⟨fun z => absurd h4 z, fun _ => ?_⟩
  rw [h1 50 (by decide) (by decide) (by decide), h1 51 (by decide) (by decide) (by decide), hB, h3]
  simp (disch := omega) only [nI_clamp, nI_add, pk_mul, pk_sub, ↓pk_rem, pk_div, k_mod, k_m1, nI_ltI, nI_leI, nI_eq, k_n0lt, k_nle0, k_0ltn, k_0len, k_n0eq, k_vin, Nat.reduceAdd, Nat.reduceMul, Nat.reduceLT, Nat.reduceLeDiff, Nat.reduceSub, Nat.reduceEqDiff, Nat.zero_add, Nat.add_zero]
  unfold hrF at hK
  refine ⟨fun q => ?_, fun q => ⟨by first | exact trivial | exact vp_in_nI (by omega) (by decide), ?_⟩⟩
  · rw [if_neg (by omega)] at hK; exact hK
  · rw [if_pos (by omega)] at hK; exact hK
theorem T_hereB {f : Nat} (hf : f ≤ 60) (h : CSbad B f σ) (hK : K (-1 : Int32) σ) : CallI E shC d mX3_here [.ref 47] σ K := by
  refine vc_Reader_here ⟨fun _ => hK, fun z => absurd z ?_⟩
  rw [h.2.1]
  exact ne_m1 (by omega)
theorem T_add48 {x : Nat} (h : CSok B u pl c σ) (hc : c.length < 60) (hL : ∀ σ', CSok B u pl (c ++ [x]) σ' → L σ') : CallN E shC d mX4_add [.ref 48, .int (nI x)] σ L := by
  obtain ⟨h1, h2, h3, h4, h5, h6⟩ := h
  refine vc_Row_add_48 ?_
  rw [h5]
  simp (disch := omega) only [nI_clamp, nI_add, pk_mul, pk_sub, ↓pk_rem, pk_div, k_mod, k_m1, nI_ltI, nI_leI, nI_eq, k_n0lt, k_nle0, k_0ltn, k_0len, k_n0eq, k_vin, Nat.reduceAdd, Nat.reduceMul, Nat.reduceLT, Nat.reduceLeDiff, Nat.reduceSub, Nat.reduceEqDiff, Nat.zero_add, Nat.add_zero]
  refine ⟨fun z => absurd z (by omega), fun _ => ⟨by first | exact trivial | exact vp_in_nI (by omega) (by decide), ?_⟩⟩
  rintro _ rfl
  rintro _ rfl
  refine hL _ ⟨fun i a b e => by rw [k_put_ne b, k_put_ne e]; exact h1 i a b e, h2, h3, h4, ?_, fun j hj => ?_⟩
  · rw [k_put_at, upd_at, k_put_ne (by decide), h5, nI_add, List.length_append]; rfl
  · rw [k_put_ne (by decide), k_put_at]
    rw [List.length_append] at hj
    have hj : j < c.length + 1 := hj
    by_cases e : j = c.length
    · rw [e, upd_at, List.getD_eq_getElem?_getD, List.getElem?_append_right (Nat.le_refl _), Nat.sub_self]; rfl
    · rw [upd_ne e, h6 j (by omega), List.getD_eq_getElem?_getD, List.getD_eq_getElem?_getD, List.getElem?_append_left (by omega)]
theorem T_add48B {f : Nat} {x : Int32} (h : CSbad B f σ) (hL : ∀ σ', CSbad B f σ' → L σ') : CallN E shC d mX4_add [.ref 48, .int x] σ L := by
  obtain ⟨h1, h2, ⟨s, hs, h3⟩⟩ := id h
  refine vc_Row_add_48 ?_
  rw [h3]
  simp (disch := omega) only [nI_clamp, nI_add, pk_mul, pk_sub, ↓pk_rem, pk_div, k_mod, k_m1, nI_ltI, nI_leI, nI_eq, k_n0lt, k_nle0, k_0ltn, k_0len, k_n0eq, k_vin, Nat.reduceAdd, Nat.reduceMul, Nat.reduceLT, Nat.reduceLeDiff, Nat.reduceSub, Nat.reduceEqDiff, Nat.zero_add, Nat.add_zero]
  refine ⟨fun _ => hL _ h, fun _ => ⟨by first | exact trivial | exact vp_in_nI (by omega) (by decide), ?_⟩⟩
  rintro _ rfl
  rintro _ rfl
  refine hL _ ⟨fun i a b e => by rw [k_put_ne b, k_put_ne e]; exact h1 i a b e, h2, ?_⟩
  rw [k_put_at, upd_at, k_put_ne (by decide), h3, nI_add]
  exact ⟨s + 1, by omega, rfl⟩
theorem T_stop (h : CSok B u pl c σ) (hc : c.length ≤ 60) (hL : ∀ σ', CSbad B pl σ' → L σ') : CallN E shC d mX3_stopHere [.ref 47] σ L := by
  obtain ⟨h1, h2, h3, h4, h5, h6⟩ := h
  refine vc_Reader_stopHere ⟨fun z => absurd h4 z, fun _ => ?_⟩
  rintro _ rfl
  refine hL _ ⟨fun i a b e => by rw [k_put_ne a]; exact h1 i a b e, by rw [k_put_at, upd_at, h3], by rw [k_put_ne (by decide), h5]; exact ⟨_, by omega, rfl⟩⟩
theorem T_stopB {f : Nat} (hf : f ≤ 60) (h : CSbad B f σ) (hL : L σ) : CallN E shC d mX3_stopHere [.ref 47] σ L := by
  refine vc_Reader_stopHere ⟨fun _ => hL, fun z => absurd z ?_⟩
  rw [h.2.1]
  exact ne_m1 (by omega)
theorem CSok.mv {σ' : Sg} (h : CSok B u pl c σ) (e : σ' = k_put σ 47 (upd (σ 47) 3 (σ 47 3 + nI 1))) : CSok B u (pl + 1) c σ' := by
  subst e
  obtain ⟨h1, h2, h3, h4, h5, h6⟩ := h
  refine ⟨fun i a b e => by rw [k_put_ne a]; exact h1 i a b e, by rw [k_put_at, upd_ne (by decide)]; exact h2, by rw [k_put_at, upd_at, h3, nI_add], by rw [k_put_at, upd_ne (by decide)]; exact h4, h5, h6⟩
theorem T_isDigit {b : Int32} (h : K (k_b (dgF b = true)) σ) : CallI E S d mX3_isDigit [.int b] σ K := by
  refine vc_Reader_isDigit ⟨fun q => ?_, fun q => ⟨fun q2 => ?_, fun q2 => ?_⟩⟩
  · rw [k_bF (by unfold dgF; simp [q])] at h; exact h
  · rw [k_bF (by unfold dgF; simp [q2])] at h; exact h
  · rw [k_bT (by unfold dgF; simp [q, q2])] at h; exact h
theorem T_isSignOf {lev : Nat} {b : Int32} (hl : lev < 5) (h : K (k_b (sgF lev b)) σ) : CallI E S d mX3_isSignOf [.int (nI lev), .int b] σ K := by
  have cs : lev = 0 ∨ lev = 1 ∨ lev = 2 ∨ lev = 3 ∨ lev = 4 := by omega
  have yes : ∀ c, c ∈ sgL lev → b = nI c → K (nI 1) σ := fun c hc e => by rw [k_bT ⟨c, hc, e⟩] at h; exact h
  have no : (∀ c, c ∈ sgL lev → ¬ b = nI c) → K (nI 0) σ := fun hc => by rw [k_bF (fun ⟨c, a, e⟩ => hc c a e)] at h; exact h
  refine vc_Reader_isSignOf ?_
  rcases cs with rfl | rfl | rfl | rfl | rfl
  · exact ⟨fun _ => ⟨fun q => no (fun c hc => by simp [sgL] at hc; rw [hc]; exact q), fun q => yes 124 (by decide) q⟩, fun z => absurd z (by decide), fun z => absurd z (by decide), fun z => absurd z (by decide), fun z => absurd rfl z⟩
  · exact ⟨fun z => absurd z (by decide), fun _ => ⟨fun q => no (fun c hc => by simp [sgL] at hc; rw [hc]; exact q), fun q => yes 38 (by decide) q⟩, fun z => absurd z (by decide), fun z => absurd z (by decide), fun _ z => absurd rfl z⟩
  · exact ⟨fun z => absurd z (by decide), fun z => absurd z (by decide), fun _ => ⟨fun q => yes 60 (by decide) q, fun q => ⟨fun q2 => yes 61 (by decide) q2, fun q2 => ⟨fun q3 => no (fun c hc => by
      simp [sgL] at hc
      rcases hc with rfl | rfl | rfl
      · exact q
      · exact q2
      · exact q3), fun q3 => yes 62 (by decide) q3⟩⟩⟩, fun z => absurd z (by decide), fun _ _ z => absurd rfl z⟩
  · exact ⟨fun z => absurd z (by decide), fun z => absurd z (by decide), fun z => absurd z (by decide), fun _ => ⟨fun q => yes 43 (by decide) q, fun q => ⟨fun q2 => no (fun c hc => by
      simp [sgL] at hc
      rcases hc with rfl | rfl
      · exact q
      · exact q2), fun q2 => yes 45 (by decide) q2⟩⟩, fun _ _ _ z => absurd rfl z⟩
  · exact ⟨fun z => absurd z (by decide), fun z => absurd z (by decide), fun z => absurd z (by decide), fun z => absurd z (by decide), fun _ _ _ _ => ⟨fun q => yes 42 (by decide) q, fun q => ⟨fun q2 => yes 47 (by decide) q2, fun q2 => ⟨fun q3 => no (fun c hc => by
      simp [sgL] at hc
      rcases hc with rfl | rfl | rfl
      · exact q
      · exact q2
      · exact q3), fun q3 => yes 37 (by decide) q3⟩⟩⟩⟩
theorem T_nameHere (hu : u < 2) (hB : B 50 1 = nI n) (hn : n ≤ 60) (h : CSok B u pl c σ) (hpl : pl ≤ n) (h1 : nmF u (hrF (B 51) n pl) < 3 → K (nI (nmF u (hrF (B 51) n pl))) σ) (h2 : ¬ nmF u (hrF (B 51) n pl) < 3 → K (-1 : Int32) σ) : CallI E shC (d + 1) mX3_nameHere [.ref 47] σ K := by
  refine vc_Reader_nameHere ?_
  have e2 := h.2.1
  unfold nmF at h1 h2
  apply vb_Reader_nameHere_2
  rw [e2]
  simp (disch := omega) only [nI_clamp, nI_add, pk_mul, pk_sub, ↓pk_rem, pk_div, k_mod, k_m1, nI_ltI, nI_leI, nI_eq, k_n0lt, k_nle0, k_0ltn, k_0len, k_n0eq, k_vin, Nat.reduceAdd, Nat.reduceMul, Nat.reduceLT, Nat.reduceLeDiff, Nat.reduceSub, Nat.reduceEqDiff, Nat.zero_add, Nat.add_zero]
  refine ⟨fun z => absurd z (by decide), fun _ => ⟨by first | exact trivial | exact vp_in_nI (by omega) (by decide), T_here hB hn h hpl ⟨fun q => ?_, fun q => ?_⟩⟩⟩
  rotate_left
  · rw [if_pos q] at h1
    exact h1 (by decide)
  rw [if_neg q] at h1 h2
  apply vb_Reader_nameHere_2
  rw [e2]
  simp (disch := omega) only [nI_clamp, nI_add, pk_mul, pk_sub, ↓pk_rem, pk_div, k_mod, k_m1, nI_ltI, nI_leI, nI_eq, k_n0lt, k_nle0, k_0ltn, k_0len, k_n0eq, k_vin, Nat.reduceAdd, Nat.reduceMul, Nat.reduceLT, Nat.reduceLeDiff, Nat.reduceSub, Nat.reduceEqDiff, Nat.zero_add, Nat.add_zero]
  refine ⟨fun z => absurd z (by decide), fun _ => ⟨by first | exact trivial | exact vp_in_nI (by omega) (by decide), T_here hB hn h hpl ⟨fun q => ?_, fun q => ?_⟩⟩⟩
  rotate_left
  · rw [if_pos q] at h1
    exact h1 (by decide)
  rw [if_neg q] at h1 h2
  apply vb_Reader_nameHere_2
  rw [e2]
  simp (disch := omega) only [nI_clamp, nI_add, pk_mul, pk_sub, ↓pk_rem, pk_div, k_mod, k_m1, nI_ltI, nI_leI, nI_eq, k_n0lt, k_nle0, k_0ltn, k_0len, k_n0eq, k_vin, Nat.reduceAdd, Nat.reduceMul, Nat.reduceLT, Nat.reduceLeDiff, Nat.reduceSub, Nat.reduceEqDiff, Nat.zero_add, Nat.add_zero]
  refine ⟨fun z => absurd z (by decide), fun _ => ⟨by first | exact trivial | exact vp_in_nI (by omega) (by decide), T_here hB hn h hpl ⟨fun q => ?_, fun q => ?_⟩⟩⟩
  rotate_left
  · rw [if_pos q] at h1
    exact h1 (by decide)
  rw [if_neg q] at h2
  apply vb_Reader_nameHere_2
  simp (disch := omega) only [nI_clamp, nI_add, pk_mul, pk_sub, ↓pk_rem, pk_div, k_mod, k_m1, nI_ltI, nI_leI, nI_eq, k_n0lt, k_nle0, k_0ltn, k_0len, k_n0eq, k_vin, Nat.reduceAdd, Nat.reduceMul, Nat.reduceLT, Nat.reduceLeDiff, Nat.reduceSub, Nat.reduceEqDiff, Nat.zero_add, Nat.add_zero]
  exact ⟨fun _ => h2 (by decide), fun z => absurd (by decide) z⟩
theorem T_number (hB : B 50 1 = nI n) (hn : n ≤ 60) (h : CSok B u pl c σ) (hpl : pl ≤ n) (hc : c.length < 60) (hL : ∀ σ', CSok B u (nbF (B 51) n 4 0 pl).2 (c ++ [(nbF (B 51) n 4 0 pl).1]) σ' → L σ') : CallN E shC (d + 1) mX3_readNumber [.ref 47] σ L := by
  refine vc_Reader_readNumber ?_
  have loop : ∀ m i v pl' σ', m + i = 4 → v < 10 ^ i → pl' ≤ n → CSok B u pl' c σ' → nbF (B 51) n m v pl' = nbF (B 51) n 4 0 pl → WP E shC mX3_readNumber (d + 1) 4 [some (.ref 47), some (.int (nI v)), some (.int (nI i))] [] σ' (k_qn L) := by
    intro m
    induction m with
    | zero =>
      intro i v pl' σ' hi hv hp hS e
      have ei : i = 4 := by omega
      subst ei
      have e : (v, pl') = nbF (B 51) n 4 0 pl := e
      rw [← e] at hL
      apply vb_Reader_readNumber_4
      exact ⟨fun _ => T_add48 hS hc hL, fun z => absurd (Int32.le_refl _) z⟩
    | succ m ih =>
      intro i v pl' σ' hi hv hp hS e
      rw [show nbF (B 51) n (m + 1) v pl' = if dgF (hrF (B 51) n pl') = true then nbF (B 51) n m (v * 10 + (cl (hrF (B 51) n pl') - 48)) (pl' + 1) else (v, pl') from rfl] at e
      apply vb_Reader_readNumber_4
      rw [nI_leI (by omega) (by omega)]
      refine ⟨fun z => absurd z (by omega), fun _ => T_here hB hn hS hp (T_isDigit (k_if (fun q => ?_) (fun q => T_here hB hn hS hp ?_)))⟩
      · rw [if_neg q] at e
        rw [← e] at hL
        exact T_add48 hS hc hL
      · rw [if_pos q] at e
        have hl := dg_lt q
        obtain ⟨j, j1, j2, ej⟩ := dg_nI q
        have ecl : cl (hrF (B 51) n pl') = j := by rw [ej]; exact nI_clamp (by omega)
        rw [ecl] at e
        rw [ej]
        intro σ9 e9
        have hS2 := hS.mv e9
        have p4 : 10 ^ i ≤ 10 ^ 4 := Nat.pow_le_pow_right (by decide) (by omega)
        have en : nI v * nI 10 + nI j - nI 48 = nI (v * 10 + (j - 48)) := by
          rw [pk_mul, nI_add, pk_sub (by omega)]
          congr 1
          omega
        rw [en, nI_add]
        refine ih (i + 1) _ _ _ (by omega) ?_ (by omega) hS2 e
        rw [Nat.pow_succ]
        omega
  exact loop 4 0 0 pl σ rfl (by decide) hpl h rfl
end P51

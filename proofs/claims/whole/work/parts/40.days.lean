/-! promise 18: a day goes, as both run it -/
theorem RE.a {σ : Sg} (h : RE σ) : IvA σ := by obtain ⟨_, h⟩ := h; exact h.a
theorem RE.q {σ : Sg} (h : RE σ) : IvQ σ := by obtain ⟨_, h⟩ := h; exact h.q
theorem RE.c {σ : Sg} (h : RE σ) : IvC σ := by obtain ⟨_, h⟩ := h; exact h.c
theorem RE.x {σ : Sg} (h : RE σ) : IvX σ := by obtain ⟨_, h⟩ := h; exact h.x.iv
theorem RE.e {σ σ' : Sg} (h : RE σ) (e : eqC σ σ') : RE σ' := by obtain ⟨_, h⟩ := h; exact ⟨_, h.c2 e⟩
theorem duF_lt (σ : Sg) (a b c : Int32) : k_lt (duF σ a b c) 1000 := gvF_lt _ _ _ _ _ _
section P40
variable {E E' : KE} {S : Shp} {d d' : Nat} {x1 x2 x3 : Int32} {σ τ : Sg} {Z : Int32 → Int32 → Sg → Sg → Prop} {K : Int32 → Sg → Prop} {L : Sg → Prop}
theorem T_letOneLive {p q : Nat} (hE : RE σ) (hp : p < 6) (hq : q < 28) (h : ∀ σ', eqC (lv1 σ p q) σ' → L σ') : CallN E shC (d + 3) mX9_letOneLive [.ref 1, .int (nI p), .int (nI q), .int (lvF σ p q)] σ L := by
  obtain ⟨⟨-, -, h5, h6⟩, -⟩ := hE.a.2 p hp
  have hl := lvF_lt hE.a hp hq
  generalize hlv : lvF σ p q = lv at hl
  refine vc_World_letOneLive ?_
  simp (disch := omega) only [nI_clamp, nI_add, pk_mul, pk_sub, ↓pk_rem, pk_div, k_mod, k_m1, nI_ltI, nI_leI, nI_eq, k_n0lt, k_nle0, k_0ltn, k_0len, k_n0eq, k_vin, Nat.reduceAdd, Nat.reduceMul, Nat.reduceLT, Nat.reduceLeDiff, Nat.reduceSub, Nat.reduceEqDiff, Nat.zero_add, Nat.add_zero]
  refine ⟨trivial, trivial, T_useGives1 hE.x (fun σ1 e1 => vc_World_older ?_)⟩
  rw [older_eq h5 hl]
  refine ⟨trivial, ?_⟩
  rintro _ rfl
  refine vc_World_poorer ?_
  rw [poorer_eq h6 (duF_lt _ _ _ _)]
  refine ⟨trivial, ?_⟩
  rintro _ rfl
  refine T_timesOf hp hq ?_
  simp only [k_put_ne (by decide : (7 : Nat) ≠ 6), k_put_ne (by decide : (7 : Nat) ≠ 5), k_put_ne (by decide : (6 : Nat) ≠ 5), k_put_ne (by decide : (1 : Nat) ≠ 6), k_put_ne (by decide : (1 : Nat) ≠ 5)]
  unfold lv1 lv2 at h
  rw [hlv] at h
  rw [e1 7 (by decide), e1 5 (by decide), e1 6 (by decide), e1 1 (by decide)]
  refine ⟨fun c => ?_, fun c => vc_World_oneMore ?_⟩
  · rw [if_pos c] at h
    exact h _ e1.put2.put2
  · rw [if_neg c] at h
    rw [more_eq hE.c.2.1]
    rintro _ rfl
    simp only [k_put_ne (by decide : (1 : Nat) ≠ 6), k_put_ne (by decide : (1 : Nat) ≠ 5)]
    rw [e1 1 (by decide)]
    exact h _ e1.put2.put2.put2
theorem T_settle {q : Nat} (hE : RE σ) (hq : q < 28) (h : L (stN σ q (nQ σ))) : CallN E shC (d + 4) mX9_settlePromises [.ref 1, .int (nI q)] σ L := by
  have hl := nQ_le hE.q
  have e8 : σ 8 3 = nI (nQ σ) := (cl_lt hE.q.1 (by decide)).2
  refine vc_World_settlePromises ?_
  have loop : ∀ r k, k + r = nQ σ → WP E shC mX9_settlePromises (d + 3 + 1) 2 [some (.ref 1), some (.int (nI q)), some (.int (nI k))] [] (stN σ q k) (k_qn L) := by
    intro r
    induction r with
    | zero =>
      intro k hk
      have e : k = nQ σ := by omega
      apply vb_World_settlePromises_2
      rw [stN_ne (by decide), e8]
      exact ⟨fun _ => by rw [e]; exact h, fun z => absurd (by rw [e]; exact Int32.le_refl _) z⟩
    | succ r ih =>
      intro k hk
      have ih := ih (k + 1) (by omega)
      have hEk : RE (stN σ q k) := hE.settN q k
      have hk1 : nQ (stN σ q k) = nQ σ := by unfold nQ; rw [stN_ne (by decide)]
      apply vb_World_settlePromises_2
      rw [stN_ne (i := 8) (by decide), e8]
      simp (disch := omega) only [nI_clamp, nI_add, pk_mul, pk_sub, ↓pk_rem, pk_div, k_mod, k_m1, nI_ltI, nI_leI, nI_eq, k_n0lt, k_nle0, k_0ltn, k_0len, k_n0eq, k_vin, Nat.reduceAdd, Nat.reduceMul, Nat.reduceLT, Nat.reduceLeDiff, Nat.reduceSub, Nat.reduceEqDiff, Nat.zero_add, Nat.add_zero]
      refine ⟨fun z => absurd z (by omega), fun _ => ⟨trivial, fun c => T_isKept hEk.a hEk.q (by omega) (k_if (fun c2 => vc_World_oneMore ?_) (fun c2 => vc_World_oneMore ?_)), fun c => ?_⟩⟩
      · simp only [stN, st1] at ih
        rw [if_pos c, if_neg c2] at ih
        rw [more_eq hEk.c.2.2.2.1]
        rintro _ rfl
        exact ih
      · simp only [stN, st1] at ih
        rw [if_pos c, if_pos c2] at ih
        rw [more_eq hEk.c.2.2.1]
        rintro _ rfl
        exact ih
      · simp only [stN, st1] at ih
        rw [if_neg c] at ih
        exact ih
  exact loop (nQ σ) 0 (by omega)
theorem T_letDayGo (hE : RE σ) (h : ∀ σ', eqC (dyF σ) σ' → K (nI (upF σ (nT σ % 28) (nP σ))) σ') : CallI E shC (d + 5) mX9_letDayGo [.ref 1] σ K := by
  have hn := nP_le hE.a
  have e2 : σ 2 5 = nI (nP σ) := (cl_lt hE.a.1 (by decide)).2
  unfold dyF at h
  refine vc_World_letDayGo (T_dayIn hE.c (by decide) ?_)
  rw [Nat.add_zero]
  have hq : nT σ % 28 < 28 := Nat.mod_lt _ (by decide)
  generalize nT σ % 28 = q at h hq
  have loop : ∀ r k, k + r = nP σ → ∀ σ1, eqC (lvN σ q k) σ1 → WP E shC mX9_letDayGo (d + 4 + 1) 10 [some (.ref 1), some (.int (nI q)), some (.int (nI (upF σ q k))), some (.int (nI k)), none] [] σ1 (k_qi K) := by
    intro r
    induction r with
    | zero =>
      intro k hk σ1 e1
      have e : k = nP σ := by omega
      rw [e] at e1 ⊢
      have hE1 : RE σ1 := (hE.livN q (nP σ) hn).e e1
      have eQ : nQ σ1 = nQ σ := by unfold nQ; rw [e1 8 (by decide), lvN_ne (by decide) (by decide) (by decide)]
      have es := stN_c e1 q (nQ σ)
      have hEs : RE (stN σ1 q (nQ σ)) := hE1.settN q _
      have hu := upF_le σ q (nP σ)
      apply vb_World_letDayGo_10
      rw [e1 2 (by decide), lvN_ne (by decide) (by decide) (by decide), e2]
      refine ⟨fun _ => T_settle hE1 hq ?_, fun z => absurd (Int32.le_refl _) z⟩
      rw [eQ]
      refine ⟨fun c => ?_, fun c => vc_World_oneMore ?_⟩
      · have c : upF σ q (nP σ) ≠ 0 := fun z => c (by rw [z]; rfl)
        unfold ln1 at h
        rw [if_neg c] at h
        rintro _ rfl
        exact h _ (td1_c es)
      · have c : upF σ q (nP σ) = 0 := by
          simp (disch := omega) only [nI_clamp, nI_add, pk_mul, pk_sub, ↓pk_rem, pk_div, k_mod, k_m1, nI_ltI, nI_leI, nI_eq, k_n0lt, k_nle0, k_0ltn, k_0len, k_n0eq, k_vin, Nat.reduceAdd, Nat.reduceMul, Nat.reduceLT, Nat.reduceLeDiff, Nat.reduceSub, Nat.reduceEqDiff, Nat.zero_add, Nat.add_zero] at c
          exact c
        rw [more_eq hEs.c.2.2.2.2]
        rintro _ rfl
        rintro _ rfl
        have z := td1_c (ln1_c es (upF σ q (nP σ)))
        refine h _ ?_
        have ez : ln1 (stN σ1 q (nQ σ)) (upF σ q (nP σ)) = k_put (stN σ1 q (nQ σ)) 1 (upd (stN σ1 q (nQ σ) 1) 10 (capF (stN σ1 q (nQ σ) 1 10 + nI 1))) := by unfold ln1; rw [if_pos c]
        rw [ez] at z
        exact z
    | succ r ih =>
      intro k hk σ1 e1
      have ih := ih (k + 1) (by omega)
      have hE1 : RE σ1 := (hE.livN q k (by omega)).e e1
      have el : lvF σ1 k q = lvF σ k q := by rw [lvF_c e1, lvF_N]
      apply vb_World_letDayGo_10
      rw [e1 2 (by decide), lvN_ne (by decide) (by decide) (by decide), e2]
      rw [nI_leI (by omega) (by omega)]
      refine ⟨fun z => absurd z (by omega), fun _ => T_livesOf (by omega) hq ?_⟩
      rw [el]
      simp only [lvN, upF] at ih
      refine ⟨fun c => ?_, fun c => ?_⟩
      · rw [if_pos c, if_pos c] at ih
        simp (disch := omega) only [nI_clamp, nI_add, pk_mul, pk_sub, ↓pk_rem, pk_div, k_mod, k_m1, nI_ltI, nI_leI, nI_eq, k_n0lt, k_nle0, k_0ltn, k_0len, k_n0eq, k_vin, Nat.reduceAdd, Nat.reduceMul, Nat.reduceLT, Nat.reduceLeDiff, Nat.reduceSub, Nat.reduceEqDiff, Nat.zero_add, Nat.add_zero]
        exact ih _ e1
      · rw [if_neg c, if_neg c] at ih
        rw [← el]
        refine T_letOneLive hE1 (by omega) hq (fun σ2 e3 => ?_)
        simp (disch := omega) only [nI_clamp, nI_add, pk_mul, pk_sub, ↓pk_rem, pk_div, k_mod, k_m1, nI_ltI, nI_leI, nI_eq, k_n0lt, k_nle0, k_0ltn, k_0len, k_n0eq, k_vin, Nat.reduceAdd, Nat.reduceMul, Nat.reduceLT, Nat.reduceLeDiff, Nat.reduceSub, Nat.reduceEqDiff, Nat.zero_add, Nat.add_zero]
        exact ih _ ((lv1_c e1 k q).tr e3)
  exact loop (nP σ) 0 (by omega) σ eqC.rf
/-- the reference -/
theorem T_Mcounts {w : Nat} (hw : w < 552) (h : L (k_put τ 1 (upd (τ 1) w (capF (τ 1 w + nI 1))))) : CallN E shR (d + 1) mX11_counts [.ref 0, .int (nI w)] τ L := by
  refine vc_Md_counts ?_
  simp (disch := omega) only [nI_clamp, nI_add, pk_mul, pk_sub, ↓pk_rem, pk_div, k_mod, k_m1, nI_ltI, nI_leI, nI_eq, k_n0lt, k_nle0, k_0ltn, k_0len, k_n0eq, k_vin, Nat.reduceAdd, Nat.reduceMul, Nat.reduceLT, Nat.reduceLeDiff, Nat.reduceSub, Nat.reduceEqDiff, Nat.zero_add, Nat.add_zero]
  refine ⟨trivial, T_Mheld (by decide) ⟨trivial, ?_⟩⟩
  rintro _ rfl
  exact h
theorem T_manyUp {q : Nat} (hW : RW σ (τ 1)) (hq : q < 28) (h : K (nI (upF σ q (nP σ))) τ) : CallI E shR (d + 3) mX11_manyUp [.ref 0, .int (nI q)] τ K := by
  have hn := nP_le hW.a
  have e2 : τ 1 2 = nI (nP σ) := hW.ra.1.trans (cl_lt hW.a.1 (by decide)).2
  refine vc_Md_manyUp ?_
  have loop : ∀ r k, k + r = nP σ → WP E shR mX11_manyUp (d + 2 + 1) 4 [some (.ref 0), some (.int (nI q)), some (.int (nI (upF σ q k))), some (.int (nI k))] [] τ (k_qi K) := by
    intro r
    induction r with
    | zero =>
      intro k hk
      have e : k = nP σ := by omega
      apply vb_Md_manyUp_4
      simp (disch := omega) only [nI_clamp, nI_add, pk_mul, pk_sub, ↓pk_rem, pk_div, k_mod, k_m1, nI_ltI, nI_leI, nI_eq, k_n0lt, k_nle0, k_0ltn, k_0len, k_n0eq, k_vin, Nat.reduceAdd, Nat.reduceMul, Nat.reduceLT, Nat.reduceLeDiff, Nat.reduceSub, Nat.reduceEqDiff, Nat.zero_add, Nat.add_zero, e2]
      refine ⟨trivial, fun _ => by rw [e]; exact h, fun z => absurd (by omega) z⟩
    | succ r ih =>
      intro k hk
      have ih := ih (k + 1) (by omega)
      have hu := upF_le σ q k
      simp only [upF] at ih
      apply vb_Md_manyUp_4
      simp (disch := omega) only [nI_clamp, nI_add, pk_mul, pk_sub, ↓pk_rem, pk_div, k_mod, k_m1, nI_ltI, nI_leI, nI_eq, k_n0lt, k_nle0, k_0ltn, k_0len, k_n0eq, k_vin, Nat.reduceAdd, Nat.reduceMul, Nat.reduceLT, Nat.reduceLeDiff, Nat.reduceSub, Nat.reduceEqDiff, Nat.zero_add, Nat.add_zero, e2]
      refine ⟨trivial, fun z => absurd z (by omega), fun _ => T_MisUp hW.ra (by omega) hq (k_if (fun c => ?_) (fun c => ?_))⟩
      · rw [if_pos (by rw [k_lti] at c; rw [k_lei]; omega)] at ih
        exact ih
      · rw [if_neg (by rw [k_lti] at c; rw [k_lei]; omega)] at ih
        exact ih
  exact loop (nP σ) 0 (by omega)
theorem T_Mlives {p q : Nat} (hW : RW σ (τ 1)) (hp : p < 6) (hq : q < 28) (h : ∀ τ', RW (lv1 σ p q) (τ' 1) → eqN τ τ' → L τ') : CallN E shR (d + 3) mX11_lives [.ref 0, .int (nI p), .int (nI q)] τ L := by
  obtain ⟨⟨a1, a2, a3, a4⟩, a5⟩ := hW.ra.2 p hp
  refine vc_Md_lives (T_Mof hp (by decide) ?_)
  simp (disch := omega) only [nI_clamp, nI_add, pk_mul, pk_sub, ↓pk_rem, pk_div, k_mod, k_m1, nI_ltI, nI_leI, nI_eq, k_n0lt, k_nle0, k_0ltn, k_0len, k_n0eq, k_vin, Nat.reduceAdd, Nat.reduceMul, Nat.reduceLT, Nat.reduceLeDiff, Nat.reduceSub, Nat.reduceEqDiff, Nat.zero_add, Nat.add_zero]
  refine ⟨trivial, T_Mof hp (by decide) (T_Mgives (Or.inr rfl) hW.x (fun τ1 f1 => ?_))⟩
  have hW1 : RW σ (τ1 1) := by rw [f1 1 rfl]; exact hW
  refine T_Mof hp (by decide) (T_MlivesOf hW1.ra hp hq (T_Mheld (by decide) (T_Mlay hp (by decide) (T_Mof hp (by decide) (T_Mheld (by decide) (T_Mlay hp (by decide) ?_))))))
  refine T_Mof hp (by omega) ?_
  have k1 := hW.liv (p := p) (d := q) hp
  rw [hW.rc.1, a3, a4, if_neg (by decide : ¬ (1 : Nat) = 0)]
  simp only [k_put_at, k_put_put]
  rw [upd_ne (show 10 + 32 * p + 3 ≠ 10 + 32 * p + 2 by omega), upd_ne (show 10 + 32 * p + (4 + q) ≠ 10 + 32 * p + 3 by omega), upd_ne (show 10 + 32 * p + (4 + q) ≠ 10 + 32 * p + 2 by omega), f1 1 rfl, a3, a4, a5 q hq]
  refine ⟨fun c => ?_, fun c => T_Mcounts (by decide) ?_⟩
  · rw [if_pos c] at k1
    refine h _ ?_ (f1.n.tr eqN.put1)
    rw [k_put_at]
    exact k1
  · rw [if_neg c] at k1
    simp only [k_put_at, k_put_put]
    refine h _ ?_ (f1.n.tr eqN.put1)
    rw [k_put_at, upd_ne (show 4 ≠ 10 + 32 * p + 3 by omega), upd_ne (show 4 ≠ 10 + 32 * p + 2 by omega), hW.rc.2.2.1]
    exact k1
theorem T_goes (hW : RW σ (τ 1)) (ht : nT σ < 19999) (h : ∀ τ', RW (dyF σ) (τ' 1) → eqN τ τ' → K (nI (upF σ (nT σ % 28) (nP σ))) τ') : CallI E shR (d + 4) mX11_goes [.ref 0] τ K := by
  have hn := nP_le hW.a
  have hl := nQ_le hW.q
  have e2 : σ 2 5 = nI (nP σ) := (cl_lt hW.a.1 (by decide)).2
  have e8 : σ 8 3 = nI (nQ σ) := (cl_lt hW.q.1 (by decide)).2
  have e6 := (nT_eq hW.c).1
  have e0 : τ 1 0 = nI (nT σ) := hW.rc.1.trans e6
  unfold dyF at h
  refine vc_Md_goes ?_
  simp (disch := omega) only [nI_clamp, nI_add, pk_mul, pk_sub, ↓pk_rem, pk_div, k_mod, k_m1, nI_ltI, nI_leI, nI_eq, k_n0lt, k_nle0, k_0ltn, k_0len, k_n0eq, k_vin, Nat.reduceAdd, Nat.reduceMul, Nat.reduceLT, Nat.reduceLeDiff, Nat.reduceSub, Nat.reduceEqDiff, Nat.zero_add, Nat.add_zero, e0]
  have hq : nT σ % 28 < 28 := Nat.mod_lt _ (by decide)
  generalize nT σ % 28 = q at h hq
  refine ⟨trivial, T_manyUp hW hq ?_⟩
  have hu := upF_le σ q (nP σ)
  have loop2 : ∀ r k, k + r = nQ σ → ∀ τ1, RW (stN (lvN σ q (nP σ)) q k) (τ1 1) → eqN τ τ1 → WP E shR mX11_goes (d + 3 + 1) 51 [some (.ref 0), some (.int (nI q)), some (.int (nI (upF σ q (nP σ)))), some (.int (nI k))] [] τ1 (k_qi K) := by
    intro r
    induction r with
    | zero =>
      intro k hk τ1 w1 f1
      have e : k = nQ σ := by omega
      have e3 : τ1 1 3 = nI (nQ σ) := by rw [w1.rq.1, stN_ne (by decide), lvN_ne (by decide) (by decide) (by decide), e8]
      have e00 : τ1 1 0 = nI (nT σ) := by rw [w1.rc.1, stN_6, lvN_6, e6]
      rw [e] at w1
      have hC := w1.c
      have e10 := w1.rc.2.2.2.2.2
      apply vb_Md_goes_51
      simp (disch := omega) only [nI_clamp, nI_add, pk_mul, pk_sub, ↓pk_rem, pk_div, k_mod, k_m1, nI_ltI, nI_leI, nI_eq, k_n0lt, k_nle0, k_0ltn, k_0len, k_n0eq, k_vin, Nat.reduceAdd, Nat.reduceMul, Nat.reduceLT, Nat.reduceLeDiff, Nat.reduceSub, Nat.reduceEqDiff, Nat.zero_add, Nat.add_zero, e3, e]
      refine ⟨trivial, fun _ => ⟨fun c => ⟨trivial, trivial, ?_⟩, fun c => T_Mcounts (by decide) ⟨trivial, trivial, ?_⟩⟩, fun z => absurd (Nat.le_refl _) z⟩
      · rintro _ rfl
        rw [e00]
        simp (disch := omega) only [nI_clamp, nI_add, pk_mul, pk_sub, ↓pk_rem, pk_div, k_mod, k_m1, nI_ltI, nI_leI, nI_eq, k_n0lt, k_nle0, k_0ltn, k_0len, k_n0eq, k_vin, Nat.reduceAdd, Nat.reduceMul, Nat.reduceLT, Nat.reduceLeDiff, Nat.reduceSub, Nat.reduceEqDiff, Nat.zero_add, Nat.add_zero]
        refine h _ ?_ (f1.tr eqN.put1)
        rw [k_put_at]
        unfold td1 ln1
        rw [if_neg c, stN_6, lvN_6, e6]
        simp (disch := omega) only [nI_clamp, nI_add, pk_mul, pk_sub, ↓pk_rem, pk_div, k_mod, k_m1, nI_ltI, nI_leI, nI_eq, k_n0lt, k_nle0, k_0ltn, k_0len, k_n0eq, k_vin, Nat.reduceAdd, Nat.reduceMul, Nat.reduceLT, Nat.reduceLeDiff, Nat.reduceSub, Nat.reduceEqDiff, Nat.zero_add, Nat.add_zero]
        exact w1.upC6 ⟨nT σ + 1, by omega, rfl⟩
      · rintro _ rfl
        simp only [k_put_at, k_put_put, upd_ne (by decide : (0 : Nat) ≠ 7)]
        rw [e00]
        simp (disch := omega) only [nI_clamp, nI_add, pk_mul, pk_sub, ↓pk_rem, pk_div, k_mod, k_m1, nI_ltI, nI_leI, nI_eq, k_n0lt, k_nle0, k_0ltn, k_0len, k_n0eq, k_vin, Nat.reduceAdd, Nat.reduceMul, Nat.reduceLT, Nat.reduceLeDiff, Nat.reduceSub, Nat.reduceEqDiff, Nat.zero_add, Nat.add_zero]
        refine h _ ?_ (f1.tr eqN.put1)
        rw [k_put_at, e10]
        unfold td1 ln1
        rw [if_pos c]
        have w2 := w1.upC10 (capF_lt (stN (lvN σ q (nP σ)) q (nQ σ) 1 10 + nI 1))
        have e66 : k_put (stN (lvN σ q (nP σ)) q (nQ σ)) 1 (upd (stN (lvN σ q (nP σ)) q (nQ σ) 1) 10 (capF (stN (lvN σ q (nP σ)) q (nQ σ) 1 10 + nI 1))) 1 6 = nI (nT σ) := by
          rw [k_put_at, upd_ne (by decide), stN_6, lvN_6, e6]
        rw [e66]
        simp (disch := omega) only [nI_clamp, nI_add, pk_mul, pk_sub, ↓pk_rem, pk_div, k_mod, k_m1, nI_ltI, nI_leI, nI_eq, k_n0lt, k_nle0, k_0ltn, k_0len, k_n0eq, k_vin, Nat.reduceAdd, Nat.reduceMul, Nat.reduceLT, Nat.reduceLeDiff, Nat.reduceSub, Nat.reduceEqDiff, Nat.zero_add, Nat.add_zero]
        exact w2.upC6 ⟨nT σ + 1, by omega, rfl⟩
    | succ r ih =>
      intro k hk τ1 w1 f1
      have ih := ih (k + 1) (by omega)
      have e3 : τ1 1 3 = nI (nQ σ) := by rw [w1.rq.1, stN_ne (by decide), lvN_ne (by decide) (by decide) (by decide), e8]
      have hk1 : nQ (stN (lvN σ q (nP σ)) q k) = nQ σ := by unfold nQ; rw [stN_ne (by decide), lvN_ne (by decide) (by decide) (by decide)]
      have c8 := w1.rc.2.2.2.1
      have c9 := w1.rc.2.2.2.2.1
      have k1 := w1.sett (d := q) (k := k)
      have ea := (w1.rq.2 k (by omega)).2.2
      simp only [stN] at ih
      generalize stN (lvN σ q (nP σ)) q k = s at w1 hk1 c8 c9 k1 ea ih
      apply vb_Md_goes_51
      simp (disch := omega) only [nI_clamp, nI_add, pk_mul, pk_sub, ↓pk_rem, pk_div, k_mod, k_m1, nI_ltI, nI_leI, nI_eq, k_n0lt, k_nle0, k_0ltn, k_0len, k_n0eq, k_vin, Nat.reduceAdd, Nat.reduceMul, Nat.reduceLT, Nat.reduceLeDiff, Nat.reduceSub, Nat.reduceEqDiff, Nat.zero_add, Nat.add_zero, e3]
      refine ⟨trivial, fun z => absurd z (by omega), fun _ => T_said (by omega) (by decide) ?_⟩
      rw [ea]
      refine ⟨fun c => ?_, fun c => T_MisKept w1 (by omega) (k_if (fun c2 => T_Mcounts (by decide) ?_) (fun c2 => T_Mcounts (by decide) ?_))⟩
      · rw [if_neg c] at k1
        exact ih _ k1 f1
      · rw [if_pos c, if_neg c2] at k1
        refine ih _ ?_ (f1.tr eqN.put1)
        rw [k_put_at, c9]
        exact k1
      · rw [if_pos c, if_pos c2] at k1
        refine ih _ ?_ (f1.tr eqN.put1)
        rw [k_put_at, c8]
        exact k1
  have loop1 : ∀ r k, k + r = nP σ → ∀ τ1, RW (lvN σ q k) (τ1 1) → eqN τ τ1 → WP E shR mX11_goes (d + 3 + 1) 18 [some (.ref 0), some (.int (nI q)), some (.int (nI (upF σ q (nP σ)))), some (.int (nI k))] [] τ1 (k_qi K) := by
    intro r
    induction r with
    | zero =>
      intro k hk τ1 w1 f1
      have e : k = nP σ := by omega
      rw [e] at w1
      have e3 : τ1 1 2 = nI (nP σ) := by rw [w1.ra.1, lvN_ne (by decide) (by decide) (by decide), e2]
      apply vb_Md_goes_18
      simp (disch := omega) only [nI_clamp, nI_add, pk_mul, pk_sub, ↓pk_rem, pk_div, k_mod, k_m1, nI_ltI, nI_leI, nI_eq, k_n0lt, k_nle0, k_0ltn, k_0len, k_n0eq, k_vin, Nat.reduceAdd, Nat.reduceMul, Nat.reduceLT, Nat.reduceLeDiff, Nat.reduceSub, Nat.reduceEqDiff, Nat.zero_add, Nat.add_zero, e3]
      exact ⟨trivial, fun _ => loop2 (nQ σ) 0 (by omega) τ1 w1 f1, fun z => absurd (by omega) z⟩
    | succ r ih =>
      intro k hk τ1 w1 f1
      have ih := ih (k + 1) (by omega)
      have e3 : τ1 1 2 = nI (nP σ) := by rw [w1.ra.1, lvN_ne (by decide) (by decide) (by decide), e2]
      simp only [lvN] at ih
      apply vb_Md_goes_18
      simp (disch := omega) only [nI_clamp, nI_add, pk_mul, pk_sub, ↓pk_rem, pk_div, k_mod, k_m1, nI_ltI, nI_leI, nI_eq, k_n0lt, k_nle0, k_0ltn, k_0len, k_n0eq, k_vin, Nat.reduceAdd, Nat.reduceMul, Nat.reduceLT, Nat.reduceLeDiff, Nat.reduceSub, Nat.reduceEqDiff, Nat.zero_add, Nat.add_zero, e3]
      refine ⟨trivial, fun z => absurd z (by omega), fun _ => T_MisUp w1.ra (by omega) hq ?_⟩
      rw [lvF_N]
      refine k_if (fun c => ?_) (fun c => T_Mlives w1 (by omega) hq (fun τ2 w2 f2 => ?_))
      · rw [if_pos (by rw [k_lti] at c; rw [k_lei]; omega)] at ih
        exact ih _ w1 f1
      · rw [if_neg (by rw [k_lti] at c; rw [k_lei]; omega)] at ih
        exact ih _ w2 (f1.tr f2)
  exact loop1 (nP σ) 0 (by omega) τ hW eqN.rf
end P40

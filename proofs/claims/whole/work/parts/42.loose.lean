/-! promises 19, 21, 22: sales by draws, then, alone -/
noncomputable def loN (σ : Sg) : Nat → Sg
  | 0 => σ
  | k + 1 => dyF (sdF (loN σ k)).1
noncomputable def lcN (σ : Sg) : Nat → Nat
  | 0 => 0
  | k + 1 => lcN σ k + (sdF (loN σ k)).2
theorem RW.sd {σ : Sg} {row : Nat → Int32} (h : RW σ row) : RE (sdF σ).1 := by
  have hE : RE (drF (drF (drF σ))) := RE.dr (RE.dr (RE.dr ⟨_, h⟩))
  unfold sdF
  split
  · exact ⟨_, h⟩
  · split
    · exact hE
    · next c1 c2 =>
      split
      · next c3 =>
        have hA := h.a
        have l1 : dnF σ % nP σ < nP σ := Nat.mod_lt _ (by omega)
        have l2 : dnF (drF σ) % nP σ < nP σ := Nat.mod_lt _ (by omega)
        have l3 : dnF (drF (drF σ)) % 28 < 28 := Nat.mod_lt _ (by omega)
        have hn := nP_le hA
        obtain ⟨_, w⟩ := hE
        exact ⟨_, w.sale (by omega) (by omega) l3 c2 c3⟩
      · exact hE
theorem sdF_T {σ : Sg} : nT (sdF σ).1 = nT σ := by
  show cl ((sdF σ).1 1 6) = cl (σ 1 6)
  rw [sdF_6]
theorem RE.lon {σ : Sg} (h : RE σ) : ∀ k, nT σ + k < 19999 → RE (loN σ k) ∧ nT (loN σ k) = nT σ + k
  | 0, _ => ⟨h, rfl⟩
  | k + 1, ht => by
    obtain ⟨a, b⟩ := RE.lon h k (by omega)
    obtain ⟨_, a⟩ := a
    have a2 := a.sd
    refine ⟨a2.dy (by rw [sdF_T]; omega), ?_⟩
    simp only [loN]
    rw [dyF_T a2.c (by rw [sdF_T]; omega), sdF_T]; omega
theorem loN_ne {σ : Sg} {i : Nat} (h1 : i ≠ 1) (h5 : i ≠ 5) (h6 : i ≠ 6) (h7 : i ≠ 7) : ∀ k, loN σ k i = σ i
  | 0 => rfl
  | k + 1 => by simp only [loN]; rw [dyF_ne h1 h5 h6, sdF_ne h1 h6 h7]; exact loN_ne h1 h5 h6 h7 k
/-- what somebody has after a day -/
theorem lvN_p {σ : Sg} {d p : Nat} : ∀ k, (lvN σ d k 5 p = if p < k ∧ ¬ lvF σ p d ≤ 0 then capF (σ 5 p + lvF σ p d) else σ 5 p) ∧ (lvN σ d k 6 p = if p < k ∧ ¬ lvF σ p d ≤ 0 then capF (σ 6 p - duF σ (σ 5 p) (σ 1 6) (σ 6 p)) else σ 6 p)
  | 0 => by
    rw [if_neg (fun z => absurd z.1 (Nat.not_lt_zero p)), if_neg (fun z => absurd z.1 (Nat.not_lt_zero p))]
    exact ⟨rfl, rfl⟩
  | k + 1 => by
    have ih := lvN_p (σ := σ) (d := d) (p := p) k
    have iq := ih
    have e : (lv1 (lvN σ d k) k d) 5 = upd (lvN σ d k 5) k (capF (lvN σ d k 5 k + lvF σ k d)) ∧ (lv1 (lvN σ d k) k d) 6 = upd (lvN σ d k 6) k (capF (lvN σ d k 6 k - duF σ (lvN σ d k 5 k) (σ 1 6) (lvN σ d k 6 k))) := by
      unfold lv1 lv2
      rw [lvF_N, lvN_6, show ∀ a b c, duF (lvN σ d k) a b c = duF σ a b c from fun a b c => by unfold duF; rw [lvN_ne (by decide) (by decide) (by decide), lvN_ne (by decide) (by decide) (by decide)]]
      split
      · exact ⟨rfl, rfl⟩
      · exact ⟨rfl, rfl⟩
    simp only [lvN]
    by_cases c : lvF σ k d ≤ 0
    · rw [if_pos c]
      by_cases hp : p = k
      · subst hp
        rw [if_neg (fun z => absurd z.1 (Nat.lt_irrefl _)), if_neg (fun z => absurd z.1 (Nat.lt_irrefl _))] at ih
        rw [if_neg (fun z => z.2 c), if_neg (fun z => z.2 c)]
        exact ih
      · have : (p < k + 1 ∧ ¬ lvF σ p d ≤ 0) ↔ (p < k ∧ ¬ lvF σ p d ≤ 0) := by constructor <;> (rintro ⟨a, b⟩; exact ⟨by omega, b⟩)
        simp only [this]
        exact ih
    · rw [if_neg c, e.1, e.2]
      by_cases hp : p = k
      · subst hp
        rw [if_neg (fun z => absurd z.1 (Nat.lt_irrefl _)), if_neg (fun z => absurd z.1 (Nat.lt_irrefl _))] at ih
        rw [if_pos ⟨by omega, c⟩, if_pos ⟨by omega, c⟩, upd_at, upd_at, ih.1, ih.2]
        exact ⟨rfl, rfl⟩
      · have : (p < k + 1 ∧ ¬ lvF σ p d ≤ 0) ↔ (p < k ∧ ¬ lvF σ p d ≤ 0) := by constructor <;> (rintro ⟨a, b⟩; exact ⟨by omega, b⟩)
        simp only [this, upd_ne hp]
        exact ih
theorem dyF_p {σ : Sg} {p : Nat} (hp : p < nP σ) : (dyF σ 5 p = if lvF σ p (nT σ % 28) ≤ 0 then σ 5 p else capF (σ 5 p + lvF σ p (nT σ % 28))) ∧ (dyF σ 6 p = if lvF σ p (nT σ % 28) ≤ 0 then σ 6 p else capF (σ 6 p - duF σ (σ 5 p) (σ 1 6) (σ 6 p))) := by
  have z := lvN_p (σ := σ) (d := nT σ % 28) (p := p) (nP σ)
  unfold dyF td1
  rw [k_put_ne (by decide), k_put_ne (by decide), ln1_ne (by decide), ln1_ne (by decide), stN_ne (by decide), stN_ne (by decide), z.1, z.2]
  by_cases c : lvF σ p (nT σ % 28) ≤ 0
  · have n : ¬ (p < nP σ ∧ ¬ lvF σ p (nT σ % 28) ≤ 0) := fun z => z.2 c
    simp only [if_neg n, if_pos c]
    exact ⟨trivial, trivial⟩
  · have n : p < nP σ ∧ ¬ lvF σ p (nT σ % 28) ≤ 0 := ⟨hp, c⟩
    simp only [if_pos n, if_neg c]
    exact ⟨trivial, trivial⟩
section P42
variable {E E' : KE} {S : Shp} {d d' : Nat} {x1 x2 x3 : Int32} {σ τ : Sg} {Z : Int32 → Int32 → Sg → Sg → Prop} {K : Int32 → Sg → Prop} {L : Sg → Prop}
theorem P_loose (hR : RR σ τ) (h : ∀ v σ' τ', RR σ' τ' → Z v v σ' τ') : CallI E shC (d + 6) mX10_loose [.ref 0, .int x1] σ (fun v σ' => CallI E' shR (d' + 6) mX11_loose [.ref 0, .int x1] τ (fun w τ' => Z v w σ' τ')) := by
  have hE : RE σ := ⟨_, hR.rw⟩
  obtain ⟨e6, -⟩ := nT_eq hE.c
  have e0 : τ 1 0 = nI (nT σ) := hR.rw.rc.1.trans e6
  have hT := hR.1.2
  refine vc_SD_loose (T_isWithin (k_ifn (fun q => ?_) (fun q => T_err (by decide) ?_)))
  rotate_left
  · exact vc_Md_loose (T_in (k_ifnF q (T_Merr1 (h _ _ _ (hR.err (by decide))))))
  obtain ⟨m, hm1, hm2, rfl⟩ := (k_wi (by decide) (by decide)).mp q
  rw [e6]
  simp (disch := omega) only [nI_clamp, nI_add, pk_mul, pk_sub, ↓pk_rem, pk_div, k_mod, k_m1, nI_ltI, nI_leI, nI_eq, k_n0lt, k_nle0, k_0ltn, k_0len, k_n0eq, k_vin, Nat.reduceAdd, Nat.reduceMul, Nat.reduceLT, Nat.reduceLeDiff, Nat.reduceSub, Nat.reduceEqDiff, Nat.zero_add, Nat.add_zero]
  refine ⟨fun q2 => ?_, fun q2 => T_err (by decide) (vc_Md_loose (T_in (k_ifnT q ?_)))⟩
  rotate_left
  · simp (disch := omega) only [nI_clamp, nI_add, pk_mul, pk_sub, ↓pk_rem, pk_div, k_mod, k_m1, nI_ltI, nI_leI, nI_eq, k_n0lt, k_nle0, k_0ltn, k_0len, k_n0eq, k_vin, Nat.reduceAdd, Nat.reduceMul, Nat.reduceLT, Nat.reduceLeDiff, Nat.reduceSub, Nat.reduceEqDiff, Nat.zero_add, Nat.add_zero, e0]
    exact ⟨trivial, fun z => absurd z (by omega), fun _ => T_Merr3 (h _ _ _ (hR.err (by decide)))⟩
  have ref : ∀ σ', eqC (loN σ m) σ' → CallI E' shR (d' + 6) mX11_loose [.ref 0, .int (nI m)] τ (fun w τ' => Z (nI (lcN σ m)) w σ' τ') := by
    intro σ' e'
    refine vc_Md_loose (T_in (k_ifnT q ?_))
    simp (disch := omega) only [nI_clamp, nI_add, pk_mul, pk_sub, ↓pk_rem, pk_div, k_mod, k_m1, nI_ltI, nI_leI, nI_eq, k_n0lt, k_nle0, k_0ltn, k_0len, k_n0eq, k_vin, Nat.reduceAdd, Nat.reduceMul, Nat.reduceLT, Nat.reduceLeDiff, Nat.reduceSub, Nat.reduceEqDiff, Nat.zero_add, Nat.add_zero, e0]
    refine ⟨trivial, fun _ => ?_, fun z => absurd (by omega) z⟩
    have loop : ∀ r k, k + r = m → ∀ τ1, RW (loN σ k) (τ1 1) → eqN τ τ1 → WP E' shR mX11_loose (d' + 5 + 1) 42 [some (.ref 0), some (.int (nI m)), some (.int (nI (lcN σ k))), some (.int (nI k))] [] τ1 (k_qi fun w τ' => Z (nI (lcN σ m)) w σ' τ') := by
      intro r
      induction r with
      | zero =>
        intro k hk τ1 w1 f1
        have e : k = m := by omega
        subst e
        apply vb_Md_loose_42
        refine ⟨fun _ => h _ _ _ ?_, fun z => absurd (Int32.le_refl _) z⟩
        refine RR.c1 (hR.now2 w1 ?_ (fun i hi => loN_ne (by omega) (by omega) (by omega) (by omega) k) f1) e'
        rw [(hE.lon k (by omega)).2]; omega
      | succ r ih =>
        intro k hk τ1 w1 f1
        have ih := ih (k + 1) (by omega)
        have ht := (hE.lon k (by omega)).2
        have hn := nP_le w1.a
        have e2 : τ1 1 2 = nI (nP (loN σ k)) := w1.ra.1.trans (cl_lt w1.a.1 (by decide)).2
        simp only [loN, lcN] at ih
        generalize loN σ k = s at w1 ih ht hn e2
        apply vb_Md_loose_42
        rw [nI_leI (by omega) (by omega)]
        simp (disch := omega) only [nI_clamp, nI_add, pk_mul, pk_sub, ↓pk_rem, pk_div, k_mod, k_m1, nI_ltI, nI_leI, nI_eq, k_n0lt, k_nle0, k_0ltn, k_0len, k_n0eq, k_vin, Nat.reduceAdd, Nat.reduceMul, Nat.reduceLT, Nat.reduceLeDiff, Nat.reduceSub, Nat.reduceEqDiff, Nat.zero_add, Nat.add_zero, e2]
        refine ⟨fun z => absurd z (by omega), fun _ => ⟨trivial, fun c => ?_, fun c => T_drawn w1 (by omega) (fun τ2 w2 f2 => T_goes w2 (by rw [sdF_T]; omega) (fun τ3 w3 f3 => ?_))⟩⟩
        · have es : sdF s = (s, 0) := by unfold sdF; rw [if_pos (by omega)]
          rw [es] at ih
          refine T_goes w1 (by omega) (fun τ2 w2 f2 => ?_)
          have iz := ih _ w2 (f1.tr f2)
          exact iz
        · simp (disch := omega) only [nI_clamp, nI_add, pk_mul, pk_sub, ↓pk_rem, pk_div, k_mod, k_m1, nI_ltI, nI_leI, nI_eq, k_n0lt, k_nle0, k_0ltn, k_0len, k_n0eq, k_vin, Nat.reduceAdd, Nat.reduceMul, Nat.reduceLT, Nat.reduceLeDiff, Nat.reduceSub, Nat.reduceEqDiff, Nat.zero_add, Nat.add_zero]
          exact ih _ w3 ((f1.tr f2).tr f3)
    exact loop m 0 (by omega) τ hR.rw eqN.rf
  have loop : ∀ r k, k + r = m → ∀ σ1, eqC (loN σ k) σ1 → WP E shC mX10_loose (d + 5 + 1) 41 [some (.ref 0), some (.int (nI m)), some (.int (nI (lcN σ k))), some (.int (nI k))] [] σ1 (k_qi fun v σ' => CallI E' shR (d' + 6) mX11_loose [.ref 0, .int (nI m)] τ (fun w τ' => Z v w σ' τ')) := by
    intro r
    induction r with
    | zero =>
      intro k hk σ1 e1
      have e : k = m := by omega
      subst e
      apply vb_SD_loose_41
      exact ⟨fun _ => ref _ e1, fun z => absurd (Int32.le_refl _) z⟩
    | succ r ih =>
      intro k hk σ1 e1
      have ih := ih (k + 1) (by omega)
      have ht := hE.lon k (by omega)
      have hE1 := ht.1.e e1
      apply vb_SD_loose_41
      rw [nI_leI (by omega) (by omega)]
      refine ⟨fun z => absurd z (by omega), fun _ => T_saleByDraws hE1 (fun σ2 e3 => ?_)⟩
      have e4 := (sdF_c e1).1.tr e3
      have hE2 : RE σ2 := by
        obtain ⟨⟨_, w⟩, -⟩ := ht
        exact w.sd.e e4
      refine T_letDayGo hE2 (fun σ3 e5 => ?_)
      rw [(sdF_c e1).2]
      simp (disch := omega) only [nI_clamp, nI_add, pk_mul, pk_sub, ↓pk_rem, pk_div, k_mod, k_m1, nI_ltI, nI_leI, nI_eq, k_n0lt, k_nle0, k_0ltn, k_0len, k_n0eq, k_vin, Nat.reduceAdd, Nat.reduceMul, Nat.reduceLT, Nat.reduceLeDiff, Nat.reduceSub, Nat.reduceEqDiff, Nat.zero_add, Nat.add_zero]
      exact ih _ ((dyF_c e4).tr e5)
  exact loop m 0 (by omega) σ eqC.rf
theorem P_then (hR : RR σ τ) (h : ∀ v σ' τ', RR σ' τ' → Z v v σ' τ') : CallI E shC (d + 6) mX10_then [.ref 0, .int x1, .int x2, .int x3] σ (fun v σ' => CallI E' shR (d' + 5) mX11_then [.ref 0, .int x1, .int x2, .int x3] τ (fun w τ' => Z v w σ' τ')) := by
  have hE : RE σ := ⟨_, hR.rw⟩
  have hA := hE.a
  have hRA := hR.rw.ra
  have hT := hR.1.2
  obtain ⟨e6, -⟩ := nT_eq hE.c
  refine vc_SD_then (T_isWithin (k_if (fun q => T_err (by decide) ?_) (fun q => T_knows hA (k_if (fun q2 => T_err (by decide) ?_) (fun q2 => T_isWithin (k_ifn (fun q3 => ?_) (fun q3 => T_err (by decide) ?_)))))))
  · exact vc_Md_then (T_in (k_ifF q (T_Merr1 (h _ _ _ (hR.err (by decide))))))
  · exact vc_Md_then (T_in (k_ifT q (T_isPerson hA hRA (k_ifF q2 (T_Merr1 (h _ _ _ (hR.err (by decide))))))))
  rotate_left
  · exact vc_Md_then (T_in (k_ifT q (T_isPerson hA hRA (k_ifT q2 (T_in (k_ifnF q3 (T_Merr1 (h _ _ _ (hR.err (by decide))))))))))
  obtain ⟨m, -, hm2, rfl⟩ := (k_wi (by decide) (by decide)).mp q
  obtain ⟨p, hp, rfl⟩ := id q2
  have hn := nP_le hA
  have hw := k_w01.mp q3
  have ref : ∀ v σ', v = (if x3 = 0 then dyN σ m 5 p else dyN σ m 6 p) → eqC σ σ' → CallI E' shR (d' + 5) mX11_then [.ref 0, .int (nI m), .int (nI p), .int x3] τ (fun w τ' => Z v w σ' τ') := by
    intro v σ' hv e'
    refine vc_Md_then (T_in (k_ifT q (T_isPerson hA hRA (k_ifT q2 (T_in (k_ifnT q3 (vc_Md_thinks (T_copy_1_3 (fun g hg => ?_)))))))))
    have hR3 : RR σ (k_put τ 3 g) := hR.b3
    have g3 : (k_put τ 3 g) 3 = g := k_put_at
    have g1 : (k_put τ 3 g) 1 = τ 1 := k_put_ne (by decide)
    generalize k_put τ 3 g = τ0 at hR3 g3 g1
    have loop : ∀ r k, k + r = m → ∀ τ1, RW (dyN σ k) (τ1 1) → eqN τ0 τ1 → WP E' shR mX11_then (d' + 4 + 1) 41 [some (.ref 0), some (.int (nI m)), some (.int (nI p)), some (.int x3), some (.int (nI k))] [] τ1 (k_qi fun w τ' => Z v w σ' τ') := by
      intro r
      induction r with
      | zero =>
        intro k hk τ1 w1 f1
        have e : k = m := by omega
        subst e
        obtain ⟨⟨-, -, a3, a4⟩, -⟩ := w1.ra.2 p (by omega)
        have fin : ∀ g', (∀ j, j < 552 → g' j = τ1 3 j) → RR σ' (k_put τ1 1 g') := by
          intro g' hg'
          refine RR.c1 (hR3.now2 ?_ hT (fun _ _ => rfl) (f1.tr eqN.put1)) e'
          rw [k_put_at]
          refine hR.rw.row (fun j hj => ?_)
          rw [hg' j hj, f1 3 rfl, g3, hg j hj]
        apply vb_Md_then_41
        refine ⟨fun _ => ?_, fun z => absurd (Int32.le_refl _) z⟩
        rcases hw with rfl | rfl
        · rw [if_pos (show nI 0 = 0 from rfl)] at hv
          refine T_Mof (w := 2) (by omega) (by decide) (vc_Md_putsBack (T_copy_3_1 (fun g' hg' => ?_)))
          rw [a3, ← hv]
          exact h _ _ _ (fin g' hg')
        · rw [if_neg (by decide)] at hv
          refine T_Mof (w := 3) (by omega) (by decide) (vc_Md_putsBack (T_copy_3_1 (fun g' hg' => ?_)))
          rw [a4, ← hv]
          exact h _ _ _ (fin g' hg')
      | succ r ih =>
        intro k hk τ1 w1 f1
        have ih := ih (k + 1) (by omega)
        have ht := (hE.dyn k (by omega)).2
        apply vb_Md_then_41
        rw [nI_leI (by omega) (by omega)]
        refine ⟨fun z => absurd z (by omega), fun _ => T_goes w1 (by omega) (fun τ2 w2 f2 => ?_)⟩
        rw [nI_add]
        exact ih _ w2 (f1.tr f2)
    refine loop m 0 (by omega) τ0 ?_ eqN.rf
    rw [g1]
    exact hR.rw
  simp (disch := omega) only [nI_clamp, nI_add, pk_mul, pk_sub, ↓pk_rem, pk_div, k_mod, k_m1, nI_ltI, nI_leI, nI_eq, k_n0lt, k_nle0, k_0ltn, k_0len, k_n0eq, k_vin, Nat.reduceAdd, Nat.reduceMul, Nat.reduceLT, Nat.reduceLeDiff, Nat.reduceSub, Nat.reduceEqDiff, Nat.zero_add, Nat.add_zero]
  refine ⟨trivial, trivial, ?_⟩
  have loop : ∀ r k, k + r = m → ∀ σ1, eqC σ σ1 → WP E shC mX10_then (d + 5 + 1) 70 [some (.ref 0), some (.int (nI m)), some (.int (nI p)), some (.int x3), some (.int (dyN σ k 5 p)), some (.int (dyN σ k 6 p)), some (.int (nI k)), none, none] [] σ1 (k_qi fun v σ' => CallI E' shR (d' + 5) mX11_then [.ref 0, .int (nI m), .int (nI p), .int x3] τ (fun w τ' => Z v w σ' τ')) := by
    intro r
    induction r with
    | zero =>
      intro k hk σ1 e1
      have e : k = m := by omega
      subst e
      apply vb_SD_then_70
      refine ⟨fun _ => ⟨fun c => ref _ _ ?_ e1, fun c => ref _ _ ?_ e1⟩, fun z => absurd (Int32.le_refl _) z⟩
      · rw [if_neg c]
      · rw [if_pos c]
    | succ r ih =>
      intro k hk σ1 e1
      have ih := ih (k + 1) (by omega)
      have ht := hE.dyn k (by omega)
      have hE1 := hE.e e1
      have a1 : nT σ1 = nT σ := by unfold nT; rw [e1 1 (by decide)]
      have a2 : nP (dyN σ k) = nP σ := by unfold nP; rw [dyN_ne (by decide) (by decide) (by decide)]
      have hq : (nT σ + k) % 28 < 28 := Nat.mod_lt _ (by decide)
      have el : lvF σ1 p ((nT σ + k) % 28) = lvF (dyN σ k) p ((nT σ + k) % 28) := by
        rw [lvF_c e1]
        unfold lvF
        rw [dyN_ne (by decide) (by decide) (by decide), dyN_ne (by decide) (by decide) (by decide), dyN_ne (by decide) (by decide) (by decide)]
      have hl := lvF_lt ht.1.a (p := p) (q := (nT σ + k) % 28) (by omega) hq
      have hp5 := (ht.1.a.2 p (by omega)).1.2.2
      have z := dyF_p (σ := dyN σ k) (p := p) (by omega)
      rw [ht.2] at z
      simp only [dyN, z.1, z.2] at ih
      apply vb_SD_then_70
      rw [nI_leI (by omega) (by omega)]
      refine ⟨fun z => absurd z (by omega), fun _ => T_dayIn hE1.c (by omega) ?_⟩
      rw [a1]
      refine T_livesOf (by omega) hq ?_
      rw [el]
      refine ⟨fun c => ?_, fun c => T_useGives1 hE1.x (fun σ2 e3 => vc_World_older ?_)⟩
      · rw [nI_add]
        rw [if_pos c, if_pos c] at ih
        exact ih _ e1
      · rw [older_eq hp5.1 hl]
        refine vc_World_poorer ?_
        rw [poorer_eq hp5.2 (duF_lt _ _ _ _)]
        rw [if_neg c, if_neg c] at ih
        have ed : duF σ1 (dyN σ k 5 p) (σ1 1 6 + nI k) (dyN σ k 6 p) = duF (dyN σ k) (dyN σ k 5 p) (dyN σ k 1 6) (dyN σ k 6 p) := by
          rw [duF_c e1, e1 1 (by decide), e6, nI_add, (nT_eq ht.1.c).1, ht.2]
          unfold duF
          rw [dyN_ne (i := 17) (by decide) (by decide) (by decide), dyN_ne (i := 18) (by decide) (by decide) (by decide)]
        rw [ed, nI_add]
        exact ih _ (e1.tr e3)
  exact loop m 0 (by omega) σ eqC.rf
/-- alone: so many of the next days with nobody up -/
def alF (σ : Sg) : Nat → Nat
  | 0 => 0
  | k + 1 => if upF σ ((nT σ + k) % 28) (nP σ) = 0 then alF σ k + 1 else alF σ k
theorem T_howManyUp {q : Nat} (hE : RE σ) (hq : q < 28) (h : K (nI (upF σ q (nP σ))) σ) : CallI E shC (d + 3) mX1_howManyUp [.ref 2, .int (nI q)] σ K := by
  have hn := nP_le hE.a
  have e2 : σ 2 5 = nI (nP σ) := (cl_lt hE.a.1 (by decide)).2
  refine vc_People_howManyUp ?_
  have loop : ∀ r k, k + r = nP σ → WP E shC mX1_howManyUp (d + 2 + 1) 4 [some (.ref 2), some (.int (nI q)), some (.int (nI (upF σ q k))), some (.int (nI k))] [] σ (k_qi K) := by
    intro r
    induction r with
    | zero =>
      intro k hk
      have e : k = nP σ := by omega
      apply vb_People_howManyUp_4
      rw [e2, e]
      exact ⟨fun _ => h, fun z => absurd (Int32.le_refl _) z⟩
    | succ r ih =>
      intro k hk
      have ih := ih (k + 1) (by omega)
      simp only [upF] at ih
      apply vb_People_howManyUp_4
      rw [e2, nI_leI (by omega) (by omega), nI_add, nI_add]
      refine ⟨fun z => absurd z (by omega), fun _ => T_isUp (by omega) hq (k_if (fun c => ?_) (fun c => ?_))⟩
      · rw [if_pos (by rw [k_lti] at c; rw [k_lei]; omega)] at ih
        exact ih
      · rw [if_neg (by rw [k_lti] at c; rw [k_lei]; omega)] at ih
        exact ih
  exact loop (nP σ) 0 (by omega)
theorem P_alone (hR : RR σ τ) (h : ∀ v σ' τ', RR σ' τ' → Z v v σ' τ') : CallI E shC (d + 6) mX10_alone [.ref 0, .int x1] σ (fun v σ' => CallI E' shR (d' + 5) mX11_alone [.ref 0, .int x1] τ (fun w τ' => Z v w σ' τ')) := by
  have hE : RE σ := ⟨_, hR.rw⟩
  obtain ⟨e6, -⟩ := nT_eq hE.c
  have e0 : τ 1 0 = nI (nT σ) := hR.rw.rc.1.trans e6
  have hT := hR.1.2
  have hn := nP_le hE.a
  refine vc_SD_alone (T_isWithin (k_ifn (fun q => ?_) (fun q => T_err (by decide) ?_)))
  rotate_left
  · exact vc_Md_alone (T_in (k_ifnF q (T_Merr1 (h _ _ _ (hR.err (by decide))))))
  obtain ⟨m, hm1, hm2, rfl⟩ := (k_wi (by decide) (by decide)).mp q
  have ref : CallI E' shR (d' + 5) mX11_alone [.ref 0, .int (nI m)] τ (fun w τ' => Z (nI (alF σ m)) w σ τ') := by
    refine vc_Md_alone (T_in (k_ifnT q ?_))
    have loop : ∀ r k, k + r = m → WP E' shR mX11_alone (d' + 4 + 1) 21 [some (.ref 0), some (.int (nI m)), some (.int (nI (alF σ k))), some (.int (nI k))] [] τ (k_qi fun w τ' => Z (nI (alF σ m)) w σ τ') := by
      intro r
      induction r with
      | zero =>
        intro k hk
        have e : k = m := by omega
        subst e
        apply vb_Md_alone_21
        exact ⟨fun _ => h _ _ _ hR, fun z => absurd (Int32.le_refl _) z⟩
      | succ r ih =>
        intro k hk
        have ih := ih (k + 1) (by omega)
        simp only [alF] at ih
        have hu := upF_le σ ((nT σ + k) % 28) (nP σ)
        apply vb_Md_alone_21
        simp (disch := omega) only [nI_clamp, nI_add, pk_mul, pk_sub, ↓pk_rem, pk_div, k_mod, k_m1, nI_ltI, nI_leI, nI_eq, k_n0lt, k_nle0, k_0ltn, k_0len, k_n0eq, k_vin, Nat.reduceAdd, Nat.reduceMul, Nat.reduceLT, Nat.reduceLeDiff, Nat.reduceSub, Nat.reduceEqDiff, Nat.zero_add, Nat.add_zero, e0]
        refine ⟨fun z => absurd z (by omega), fun _ => ⟨trivial, T_manyUp hR.rw (Nat.mod_lt _ (by decide)) ?_⟩⟩
        simp (disch := omega) only [nI_clamp, nI_add, pk_mul, pk_sub, ↓pk_rem, pk_div, k_mod, k_m1, nI_ltI, nI_leI, nI_eq, k_n0lt, k_nle0, k_0ltn, k_0len, k_n0eq, k_vin, Nat.reduceAdd, Nat.reduceMul, Nat.reduceLT, Nat.reduceLeDiff, Nat.reduceSub, Nat.reduceEqDiff, Nat.zero_add, Nat.add_zero]
        refine ⟨fun c => ?_, fun c => ?_⟩
        · rw [if_neg c] at ih
          exact ih
        · rw [if_pos c] at ih
          exact ih
    exact loop m 0 (by omega)
  have loop : ∀ r k, k + r = m → WP E shC mX10_alone (d + 5 + 1) 20 [some (.ref 0), some (.int (nI m)), some (.int (nI (alF σ k))), some (.int (nI k))] [] σ (k_qi fun v σ' => CallI E' shR (d' + 5) mX11_alone [.ref 0, .int (nI m)] τ (fun w τ' => Z v w σ' τ')) := by
    intro r
    induction r with
    | zero =>
      intro k hk
      have e : k = m := by omega
      subst e
      apply vb_SD_alone_20
      exact ⟨fun _ => ref, fun z => absurd (Int32.le_refl _) z⟩
    | succ r ih =>
      intro k hk
      have ih := ih (k + 1) (by omega)
      simp only [alF] at ih
      have hu := upF_le σ ((nT σ + k) % 28) (nP σ)
      apply vb_SD_alone_20
      simp (disch := omega) only [nI_clamp, nI_add, pk_mul, pk_sub, ↓pk_rem, pk_div, k_mod, k_m1, nI_ltI, nI_leI, nI_eq, k_n0lt, k_nle0, k_0ltn, k_0len, k_n0eq, k_vin, Nat.reduceAdd, Nat.reduceMul, Nat.reduceLT, Nat.reduceLeDiff, Nat.reduceSub, Nat.reduceEqDiff, Nat.zero_add, Nat.add_zero]
      refine ⟨fun z => absurd z (by omega), fun _ => T_dayIn hE.c (by omega) (T_howManyUp hE (Nat.mod_lt _ (by decide)) ?_)⟩
      simp (disch := omega) only [nI_clamp, nI_add, pk_mul, pk_sub, ↓pk_rem, pk_div, k_mod, k_m1, nI_ltI, nI_leI, nI_eq, k_n0lt, k_nle0, k_0ltn, k_0len, k_n0eq, k_vin, Nat.reduceAdd, Nat.reduceMul, Nat.reduceLT, Nat.reduceLeDiff, Nat.reduceSub, Nat.reduceEqDiff, Nat.zero_add, Nat.add_zero]
      refine ⟨fun c => ?_, fun c => ?_⟩
      · rw [if_neg c] at ih
        exact ih
      · rw [if_pos c] at ih
        exact ih
  exact loop m 0 (by omega)
end P42

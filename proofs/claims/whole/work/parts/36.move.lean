/-! promises 33, 34: numbers of sheets moved; funds -/
def mokF (n1 n2 : Nat) (x2 x4 x5 : Int32) : Prop := 0 ≤ x5.toInt ∧ (0 ≤ x2.toInt ∧ x2.toInt + x5.toInt ≤ n1) ∧ (0 ≤ x4.toInt ∧ x4.toInt + x5.toInt ≤ n2)
theorem k_lt0i {x : Int32} : x < 0 ↔ x.toInt < 0 := by rw [k_lti]; simp only [Int32.toInt_zero]
theorem k_subL {a : Nat} {x : Int32} (ha : a < 2 ^ 30) (hx : 0 ≤ x.toInt) : (nI a - x).toInt = (a : Int) - x.toInt := by
  have h1 := Int32.toInt_lt x
  have h2 : x = nI x.toInt.toNat := by
    apply Int32.toInt_inj.mp
    rw [nI_toInt (by omega)]; omega
  rw [h2, k_subI ha (by omega), nI_toInt (by omega)]
theorem cpy_row {f g : Nat → Int32} (h : ∀ j, j < 96 → f j = g j) {a b n : Nat} (ha : a + n ≤ 96) (_hb : b + n ≤ 96) : ∀ j, j < 96 → va_cpy f f a b n j = va_cpy g g a b n j := by
  intro j hj
  unfold va_cpy
  split
  · exact h _ (by omega)
  · exact h j hj
section P36
variable {E E' : KE} {S : Shp} {d d' : Nat} {x1 x2 x3 x4 x5 : Int32} {σ τ : Sg} {Z : Int32 → Int32 → Sg → Sg → Prop} {K : Int32 → Sg → Prop}
theorem T_stand {s n : Nat} {i m : Int32} (hs : s < 4) (hn : n < 25) (e : σ 61 s = nI n) (hm : 0 ≤ m.toInt) (h : K (k_b (0 ≤ i.toInt ∧ i.toInt + m.toInt ≤ n)) σ) : CallI E shC d mX5_stand [.ref 59, .int (nI s), .int i, .int m] σ K := by
  refine vc_Sheets_stand ?_
  simp (disch := omega) only [nI_clamp, nI_add, pk_mul, pk_sub, ↓pk_rem, pk_div, k_mod, k_m1, nI_ltI, nI_leI, nI_eq, k_n0lt, k_nle0, k_0ltn, k_0len, k_n0eq, k_vin, Nat.reduceAdd, Nat.reduceMul, Nat.reduceLT, Nat.reduceLeDiff, Nat.reduceSub, Nat.reduceEqDiff, Nat.zero_add, Nat.add_zero, e]
  have zn := nI_toInt (n := n) (by omega)
  have zs := k_subL (a := n) (x := m) (by omega) hm
  refine ⟨fun q => ?_, fun q => ⟨trivial, fun q2 => ?_, fun q2 => ⟨trivial, fun q3 => ?_, fun q3 => ?_⟩⟩⟩
  · rw [k_lt0i] at q
    rw [k_bF (by omega)] at h; exact h
  · rw [k_lt0i] at q; rw [k_lti] at q2
    rw [k_bF (by omega)] at h; exact h
  · rw [k_lt0i] at q; rw [k_lti] at q2 q3
    rw [k_bF (by omega)] at h; exact h
  · rw [k_lt0i] at q; rw [k_lti] at q2 q3
    rw [k_bT (by omega)] at h; exact h
theorem P_move (hR : RR σ τ) (h : ∀ v σ' τ', RR σ' τ' → Z v v σ' τ') : CallI E shC (d + 2) mX10_move [.ref 0, .int x1, .int x2, .int x3, .int x4, .int x5] σ (fun v σ' => CallI E' shR (d' + 4) mX11_move [.ref 0, .int x1, .int x2, .int x3, .int x4, .int x5] τ (fun w τ' => Z v w σ' τ')) := by
  have hS := hR.2.2.2.1
  have ne1 : ¬ (-1000000001 : Int32) = 0 := by decide
  have ne2 : ¬ (-1000000002 : Int32) = 0 := by decide
  have ne5 : ¬ (-1000000005 : Int32) = 0 := by decide
  have ne0 : ¬ (nI 1) = (0 : Int32) := by decide
  have eq0 : (nI 0) = (0 : Int32) := rfl
  refine vc_SD_move (T_isSheet (k_if (fun q => T_err (by decide) ?_) (fun q => T_isSheet (k_ifn (fun q2 => ?_) (fun q2 => T_err (by decide) ?_)))))
  · exact vc_Md_move (vc_Md_notMoved (T_MisSheet (k_ifF q ⟨fun z => absurd z ne1, fun _ => T_Merr1 (h _ _ _ (hR.err (by decide)))⟩)))
  rotate_left
  · exact vc_Md_move (vc_Md_notMoved (T_MisSheet (k_ifT q (T_MisSheet (k_ifnF q2 ⟨fun z => absurd z ne1, fun _ => T_Merr1 (h _ _ _ (hR.err (by decide)))⟩)))))
  obtain ⟨s, hs, rfl⟩ := id q
  obtain ⟨o, ho, rfl⟩ := id q2
  obtain ⟨b1, b2, ⟨n1, hn1, b3⟩⟩ := hS.1 s hs
  obtain ⟨c1, c2, ⟨n2, hn2, c3⟩⟩ := hS.1 o ho
  refine T_isMissing hs (k_ifn (fun q3 => T_err (by decide) ?_) (fun q3 => T_isMissing ho (k_if (fun q4 => ?_) (fun q4 => T_err (by decide) ?_))))
  · refine vc_Md_move (vc_Md_notMoved (T_MisSheet (k_ifT q (T_MisSheet (k_ifnT q2 ?_)))))
    simp (disch := omega) only [nI_clamp, nI_add, pk_mul, pk_sub, ↓pk_rem, pk_div, k_mod, k_m1, nI_ltI, nI_leI, nI_eq, k_n0lt, k_nle0, k_0ltn, k_0len, k_n0eq, k_vin, Nat.reduceAdd, Nat.reduceMul, Nat.reduceLT, Nat.reduceLeDiff, Nat.reduceSub, Nat.reduceEqDiff, Nat.zero_add, Nat.add_zero, b1, b2, c1, c2]
    exact ⟨trivial, fun _ => ⟨fun z => absurd z ne2, fun _ => T_Merr2 (h _ _ _ (hR.err (by decide)))⟩, fun z => absurd q3 z⟩
  rotate_left
  · refine vc_Md_move (vc_Md_notMoved (T_MisSheet (k_ifT q (T_MisSheet (k_ifnT q2 ?_)))))
    simp (disch := omega) only [nI_clamp, nI_add, pk_mul, pk_sub, ↓pk_rem, pk_div, k_mod, k_m1, nI_ltI, nI_leI, nI_eq, k_n0lt, k_nle0, k_0ltn, k_0len, k_n0eq, k_vin, Nat.reduceAdd, Nat.reduceMul, Nat.reduceLT, Nat.reduceLeDiff, Nat.reduceSub, Nat.reduceEqDiff, Nat.zero_add, Nat.add_zero, b1, b2, c1, c2]
    exact ⟨trivial, fun z => absurd z q3, fun _ => ⟨trivial, fun z => absurd q4 z, fun _ => ⟨fun z => absurd z ne2, fun _ => T_Merr2 (h _ _ _ (hR.err (by decide)))⟩⟩⟩
  simp (disch := omega) only [nI_clamp, nI_add, pk_mul, pk_sub, ↓pk_rem, pk_div, k_mod, k_m1, nI_ltI, nI_leI, nI_eq, k_n0lt, k_nle0, k_0ltn, k_0len, k_n0eq, k_vin, Nat.reduceAdd, Nat.reduceMul, Nat.reduceLT, Nat.reduceLeDiff, Nat.reduceSub, Nat.reduceEqDiff, Nat.zero_add, Nat.add_zero]
  refine ⟨trivial, trivial, fun q5 => ?_, fun q5 => T_err (by decide) ?_⟩
  rotate_left
  · refine vc_Md_move (vc_Md_notMoved (T_MisSheet (k_ifT q (T_MisSheet (k_ifnT q2 ?_)))))
    simp (disch := omega) only [nI_clamp, nI_add, pk_mul, pk_sub, ↓pk_rem, pk_div, k_mod, k_m1, nI_ltI, nI_leI, nI_eq, k_n0lt, k_nle0, k_0ltn, k_0len, k_n0eq, k_vin, Nat.reduceAdd, Nat.reduceMul, Nat.reduceLT, Nat.reduceLeDiff, Nat.reduceSub, Nat.reduceEqDiff, Nat.zero_add, Nat.add_zero, b1, b2, c1, c2]
    exact ⟨trivial, fun z => absurd z q3, fun _ => ⟨trivial, fun _ => ⟨trivial, trivial, fun z => absurd z q5, fun _ => ⟨fun z => absurd z ne5, fun _ => T_Merr5 (h _ _ _ (hR.err (by decide)))⟩⟩, fun z => absurd z q4⟩⟩
  have zn1 := nI_toInt (n := n1) (by omega)
  have zn2 := nI_toInt (n := n2) (by omega)
  -- the reference, behind its first tests
  have bad : ¬ mokF n1 n2 x2 x4 x5 → ∀ σ', eqC (errC σ 1) σ' → CallI E' shR (d' + 4) mX11_move [.ref 0, .int (nI s), .int x2, .int (nI o), .int x4, .int x5] τ (fun w τ' => Z ((-1000000000 : Int32) - nI 1) w σ' τ') := by
    intro hm σ' e'
    have e1 : CallI E' shR (d' + 3) mX11_error [.ref 0, .int (-1000000001 : Int32)] τ (fun w τ' => Z ((-1000000000 : Int32) - nI 1) w σ' τ') := T_Merr1 (h _ _ _ ((hR.err (k := 1) (by decide)).c1 e'))
    have no : ((nI 0) = 0 → ((-1000000001 : Int32) = 0 → WP E' shR mX11_move (d' + 3 + 1) 28 [some (.ref 0), some (.int (nI s)), some (.int x2), some (.int (nI o)), some (.int x4), some (.int x5), none, some (.int (nI 0)), none] [] τ (k_qi fun w τ' => Z ((-1000000000 : Int32) - nI 1) w σ' τ')) ∧ (¬ (-1000000001 : Int32) = 0 → CallI E' shR (d' + 3) mX11_error [.ref 0, .int (-1000000001 : Int32)] τ (fun w τ' => Z ((-1000000000 : Int32) - nI 1) w σ' τ'))) := fun _ => ⟨fun z => absurd z ne1, fun _ => e1⟩
    refine vc_Md_move (vc_Md_notMoved (T_MisSheet (k_ifT q (T_MisSheet (k_ifnT q2 ?_)))))
    simp (disch := omega) only [nI_clamp, k_vin, b1, b2, c1, c2, b3, c3]
    refine ⟨trivial, fun z => absurd z q3, fun _ => ⟨trivial, fun _ => ⟨trivial, trivial, fun _ => ⟨fun _ => ⟨no, fun z => absurd eq0 z⟩, fun z1 => ⟨fun _ => ⟨no, fun z => absurd eq0 z⟩, fun z2 => ⟨fun _ => ⟨no, fun z => absurd eq0 z⟩, fun z3 => ⟨trivial, fun _ => ⟨no, fun z => absurd eq0 z⟩, fun z4 => ⟨trivial, fun _ => ⟨no, fun z => absurd eq0 z⟩, fun z5 => absurd ?_ hm⟩⟩⟩⟩⟩, fun z => absurd q5 z⟩, fun z => absurd z q4⟩⟩
    rw [k_lt0i] at z1 z2 z3
    rw [k_lti] at z4 z5
    rw [k_subL (by omega) (by omega)] at z4 z5
    unfold mokF
    omega
  refine ⟨fun q6 => T_err (by decide) (bad (fun z => ?_) _ eqC.rf), fun q6 => T_stand hs hn1 b3 (by rw [k_lt0i] at q6; omega) (k_if (fun q7 => T_err (by decide) (bad (fun z => q7 z.2.1) _ eqC.rf)) (fun q7 => T_stand ho hn2 c3 (by rw [k_lt0i] at q6; omega) (k_ifn (fun q8 => ?_) (fun q8 => T_err (by decide) (bad (fun z => q8 z.2.2) _ eqC.rf)))))⟩
  · rw [k_lt0i] at q6
    unfold mokF at z
    omega
  rw [k_lt0i] at q6
  obtain ⟨n, hn, rfl⟩ := (k_lt_iff (x := x5) (n := 25) (by decide)).mpr (by omega)
  have zn := nI_toInt (n := n) (by omega)
  obtain ⟨i, hi, rfl⟩ := (k_lt_iff (x := x2) (n := 25) (by decide)).mpr (by omega)
  have zi := nI_toInt (n := i) (by omega)
  obtain ⟨j, hj, rfl⟩ := (k_lt_iff (x := x4) (n := 25) (by decide)).mpr (by omega)
  have zj := nI_toInt (n := j) (by omega)
  rw [zn, zi] at q7
  rw [zn, zj] at q8
  refine vc_Sheets_copyNumbers ?_
  simp (disch := omega) only [nI_clamp, nI_add, pk_mul, k_n0lt]
  refine ⟨⟨fun z => z, fun z => z, fun z => z, by omega, by omega⟩, ?_⟩
  rintro _ rfl
  have fin : RR (k_put σ 62 (va_cpy (σ 62) (σ 62) (s * 24 + i) (o * 24 + j) n)) (k_put τ 7 (va_cpy (τ 7) (τ 7) (s * 24 + i) (o * 24 + j) n)) := by
    refine hR.sh ⟨fun k hk => hS.1 k hk, ?_⟩ (fun i hi => k_put_ne (by omega)) (fun i hi => k_put_ne (by omega))
    intro x hx
    rw [k_put_at, k_put_at]
    exact cpy_row hS.2 (by omega) (by omega) x hx
  have fin2 : ∀ g, (∀ x, g x = va_cpy (τ 7) (τ 7) (s * 24 + i) (o * 24 + j) n x) → Z (nI n) (nI n) (k_put σ 62 (va_cpy (σ 62) (σ 62) (s * 24 + i) (o * 24 + j) n)) (k_put τ 7 g) := by
    intro g hg
    have e : g = va_cpy (τ 7) (τ 7) (s * 24 + i) (o * 24 + j) n := funext hg
    rw [e]
    exact h _ _ _ fin
  have run : WP E' shR mX11_move (d' + 3 + 1) 28 [some (.ref 0), some (.int (nI s)), some (.int (nI i)), some (.int (nI o)), some (.int (nI j)), some (.int (nI n)), none, some (.int (nI 0)), none] [] τ (k_qi fun w τ' => Z (nI n) w (k_put σ 62 (va_cpy (σ 62) (σ 62) (s * 24 + i) (o * 24 + j) n)) τ') := by
    have e0 : τ = k_put τ 7 (τ 7) := by
      funext i; unfold k_put; split
      · next h => rw [h]
      · rfl
    by_cases hij : j ≤ i
    · have loop : ∀ r k, k + r = n → ∀ g, (∀ x, g x = if o * 24 + j ≤ x ∧ x < o * 24 + j + k then τ 7 (s * 24 + i + (x - (o * 24 + j))) else τ 7 x) → WP E' shR mX11_move (d' + 3 + 1) 28 [some (.ref 0), some (.int (nI s)), some (.int (nI i)), some (.int (nI o)), some (.int (nI j)), some (.int (nI n)), none, some (.int (nI k)), none] [] (k_put τ 7 g) (k_qi fun w τ' => Z (nI n) w (k_put σ 62 (va_cpy (σ 62) (σ 62) (s * 24 + i) (o * 24 + j) n)) τ') := by
        intro r
        induction r with
        | zero =>
          intro k hk g hg
          have e : k = n := by omega
          subst e
          apply vb_Md_move_28
          exact ⟨fun _ => fin2 g hg, fun q => absurd (Int32.le_refl _) q⟩
        | succ r ih =>
          intro k hk g hg
          apply vb_Md_move_28
          simp (disch := omega) only [nI_clamp, nI_add, pk_mul, pk_sub, ↓pk_rem, pk_div, k_mod, k_m1, nI_ltI, nI_leI, nI_eq, k_n0lt, k_nle0, k_0ltn, k_0len, k_n0eq, k_vin, Nat.reduceAdd, Nat.reduceMul, Nat.reduceLT, Nat.reduceLeDiff, Nat.reduceSub, Nat.reduceEqDiff, Nat.zero_add, Nat.add_zero]
          refine ⟨fun q => absurd q (by omega), fun _ => ⟨fun _ => ⟨trivial, trivial, ?_⟩, fun z => absurd hij z⟩⟩
          rintro _ rfl
          rw [k_put_put, k_put_at]
          refine ih (k + 1) (by omega) _ (fun x => ?_)
          have e1 : g (24 * s + i + k) = τ 7 (s * 24 + i + k) := by
            rw [hg, if_neg (by omega), Nat.mul_comm 24 s]
          rw [e1]
          by_cases ex : x = 24 * o + j + k
          · rw [ex, upd_at, if_pos (by omega)]
            congr 1
            omega
          · rw [upd_ne ex, hg x]
            by_cases ei : o * 24 + j ≤ x ∧ x < o * 24 + j + k
            · rw [if_pos ei, if_pos (by omega)]
            · rw [if_neg ei, if_neg (by omega)]
      rw [e0]
      exact loop n 0 (by omega) _ (fun x => by rw [if_neg (by omega)])
    · have loop : ∀ r k, k + r = n → ∀ g, (∀ x, g x = if o * 24 + j + (n - k) ≤ x ∧ x < o * 24 + j + n then τ 7 (s * 24 + i + (x - (o * 24 + j))) else τ 7 x) → WP E' shR mX11_move (d' + 3 + 1) 28 [some (.ref 0), some (.int (nI s)), some (.int (nI i)), some (.int (nI o)), some (.int (nI j)), some (.int (nI n)), none, some (.int (nI k)), none] [] (k_put τ 7 g) (k_qi fun w τ' => Z (nI n) w (k_put σ 62 (va_cpy (σ 62) (σ 62) (s * 24 + i) (o * 24 + j) n)) τ') := by
        intro r
        induction r with
        | zero =>
          intro k hk g hg
          have e : k = n := by omega
          subst e
          apply vb_Md_move_28
          refine ⟨fun _ => fin2 g (fun x => ?_), fun q => absurd (Int32.le_refl _) q⟩
          rw [hg x]
          unfold va_cpy
          rw [Nat.sub_self, Nat.add_zero]
        | succ r ih =>
          intro k hk g hg
          apply vb_Md_move_28
          simp (disch := omega) only [nI_clamp, nI_add, pk_mul, pk_sub, ↓pk_rem, pk_div, k_mod, k_m1, nI_ltI, nI_leI, nI_eq, k_n0lt, k_nle0, k_0ltn, k_0len, k_n0eq, k_vin, Nat.reduceAdd, Nat.reduceMul, Nat.reduceLT, Nat.reduceLeDiff, Nat.reduceSub, Nat.reduceEqDiff, Nat.zero_add, Nat.add_zero]
          refine ⟨fun q => absurd q (by omega), fun _ => ⟨fun z => absurd z hij, fun _ => ⟨trivial, trivial, ?_⟩⟩⟩
          rintro _ rfl
          rw [k_put_put, k_put_at]
          refine ih (k + 1) (by omega) _ (fun x => ?_)
          have e1 : g (24 * s + i + (n - 1 - k)) = τ 7 (s * 24 + i + (n - 1 - k)) := by
            rw [hg, if_neg (by omega), Nat.mul_comm 24 s]
          rw [e1]
          by_cases ex : x = 24 * o + j + (n - 1 - k)
          · rw [ex, upd_at, if_pos (by omega)]
            congr 1
            omega
          · rw [upd_ne ex, hg x]
            by_cases ei : o * 24 + j + (n - k) ≤ x ∧ x < o * 24 + j + n
            · rw [if_pos ei, if_pos (by omega)]
            · rw [if_neg ei, if_neg (by omega)]
      rw [e0]
      exact loop n 0 (by omega) _ (fun x => by rw [if_neg (by omega)])
  refine vc_Md_move (vc_Md_notMoved (T_MisSheet (k_ifT q (T_MisSheet (k_ifnT q2 ?_)))))
  simp (disch := omega) only [nI_clamp, nI_add, pk_mul, pk_sub, ↓pk_rem, pk_div, k_mod, k_m1, nI_ltI, nI_leI, nI_eq, k_n0lt, k_nle0, k_0ltn, k_0len, k_n0eq, k_vin, Nat.reduceAdd, Nat.reduceMul, Nat.reduceLT, Nat.reduceLeDiff, Nat.reduceSub, Nat.reduceEqDiff, Nat.zero_add, Nat.add_zero, b1, b2, c1, c2, b3, c3]
  have ok : ((nI 1) = 0 → ((-1000000001 : Int32) = 0 → WP E' shR mX11_move (d' + 3 + 1) 28 [some (.ref 0), some (.int (nI s)), some (.int (nI i)), some (.int (nI o)), some (.int (nI j)), some (.int (nI n)), none, some (.int (nI 0)), none] [] τ (k_qi fun w τ' => Z (nI n) w (k_put σ 62 (va_cpy (σ 62) (σ 62) (s * 24 + i) (o * 24 + j) n)) τ')) ∧ (¬ (-1000000001 : Int32) = 0 → CallI E' shR (d' + 3) mX11_error [.ref 0, .int (-1000000001 : Int32)] τ (fun w τ' => Z (nI n) w (k_put σ 62 (va_cpy (σ 62) (σ 62) (s * 24 + i) (o * 24 + j) n)) τ'))) := fun z => absurd z ne0
  refine ⟨trivial, fun z => absurd z q3, fun _ => ⟨trivial, fun _ => ⟨trivial, trivial, fun _ => ⟨fun z => z.elim, fun _ => ⟨fun z => z.elim, fun _ => ⟨fun z => z.elim, fun _ => ⟨trivial, fun z => absurd z (by omega), fun _ => ⟨trivial, fun z => absurd z (by omega), fun _ => ⟨fun z => by first | exact z.elim | exact ok z | exact absurd z (by decide), fun _ => ⟨fun _ => run, fun z => by first | exact absurd eq0 z | exact absurd trivial z⟩⟩⟩⟩⟩⟩⟩, fun z => absurd q5 z⟩, fun z => absurd z q4⟩⟩
theorem T_numberAt {s i : Nat} (hs : s < 4) (hi : i < 24) (h : K (σ 62 (24 * s + i)) σ) : CallI E shC d mX5_numberAt [.ref 59, .int (nI s), .int (nI i)] σ K := by
  refine vc_Sheets_numberAt ?_
  simp (disch := omega) only [nI_clamp, nI_add, pk_mul, pk_sub, ↓pk_rem, pk_div, k_mod, k_m1, nI_ltI, nI_leI, nI_eq, k_n0lt, k_nle0, k_0ltn, k_0len, k_n0eq, k_vin, Nat.reduceAdd, Nat.reduceMul, Nat.reduceLT, Nat.reduceLeDiff, Nat.reduceSub, Nat.reduceEqDiff, Nat.zero_add, Nat.add_zero]
  rw [Nat.mul_comm s 24]
  exact ⟨trivial, h⟩
theorem P_funds (hR : RR σ τ) (h : ∀ v σ' τ', RR σ' τ' → Z v v σ' τ') : CallI E shC (d + 2) mX10_funds [.ref 0, .int x1] σ (fun v σ' => CallI E' shR (d' + 4) mX11_funds [.ref 0, .int x1] τ (fun w τ' => Z v w σ' τ')) := by
  have hS := hR.2.2.2.1
  have ne1 : ¬ (-1000000001 : Int32) = 0 := by decide
  have ne2 : ¬ (-1000000002 : Int32) = 0 := by decide
  refine vc_SD_funds (T_isSheet (k_ifn (fun q => ?_) (fun q => T_err (by decide) ?_)))
  rotate_left
  · exact vc_Md_funds (T_notThere (fun _ => ⟨fun z => absurd z ne1, fun _ => T_Merr1 (h _ _ _ (hR.err (by decide)))⟩) (fun t ht et z => absurd ⟨t, ht, et⟩ q) (fun t ht et z => absurd ⟨t, ht, et⟩ q))
  obtain ⟨s, hs, rfl⟩ := id q
  obtain ⟨b1, b2, ⟨n, hn, b3⟩⟩ := hS.1 s hs
  have sc : ∀ {t : Nat}, t < 4 → nI s = nI t → t = s := fun ht e => ((nI_eq (by omega) (by omega)).mp e).symm
  refine T_isMissing hs (k_if (fun q2 => ?_) (fun q2 => T_err (by decide) ?_))
  rotate_left
  · exact vc_Md_funds (T_notThere (fun z => absurd q z) (fun t ht et z => ⟨fun z => absurd z ne2, fun _ => T_Merr2 (h _ _ _ (hR.err (by decide)))⟩) (fun t ht et z => absurd (by rw [sc ht et, b1]; exact q2) z))
  have e5 : σ 2 5 = nI (nP σ) := (cl_lt hR.rw.a.1 (by decide)).2
  have hP := nP_le hR.rw.a
  simp (disch := omega) only [nI_clamp, nI_add, pk_mul, pk_sub, ↓pk_rem, pk_div, k_mod, k_m1, nI_ltI, nI_leI, nI_eq, k_n0lt, k_nle0, k_0ltn, k_0len, k_n0eq, k_vin, Nat.reduceAdd, Nat.reduceMul, Nat.reduceLT, Nat.reduceLeDiff, Nat.reduceSub, Nat.reduceEqDiff, Nat.zero_add, Nat.add_zero, b3, e5]
  -- the reference's loop, from where the class's loop stands
  have key : ∀ (r i m : Nat), m = min n (nP σ) → i + r = m → ∀ σ1 τ1, RR σ1 τ1 → nP σ1 = nP σ → σ1 62 = σ 62 → τ1 7 = τ 7 → τ1 6 = τ 6 →
      WP E shC mX10_funds (d + 1 + 1) 55 [some (.ref 0), some (.int (nI s)), some (.int (nI m)), some (.int (nI i)), none] [] σ1 (k_qi fun v σ' => ∀ w, w = v → ∃ τ2, RR σ' τ2 ∧ (WP E' shR mX11_funds (d' + 3 + 1) 18 [some (.ref 0), some (.int (nI s)), none, some (.int (nI i))] [] τ1 (k_qi fun w τ' => Z v w σ' τ'))) := by
    intro r
    induction r with
    | zero =>
      intro i m hm hi σ1 τ1 hR1 e1 e2 e3 e4
      have e : i = m := by omega
      subst e
      have hlt := nP_le hR1.rw.a
      have e5' : σ1 2 5 = nI (nP σ) := by rw [← e1]; exact (cl_lt hR1.rw.a.1 (by decide)).2
      apply vb_SD_funds_55
      refine ⟨fun _ => fun w hw => ⟨τ1, hR1, ?_⟩, fun q => absurd (Int32.le_refl _) q⟩
      apply vb_Md_funds_18
      simp (disch := omega) only [nI_clamp, nI_add, pk_mul, pk_sub, ↓pk_rem, pk_div, k_mod, k_m1, nI_ltI, nI_leI, nI_eq, k_n0lt, k_nle0, k_0ltn, k_0len, k_n0eq, k_vin, Nat.reduceAdd, Nat.reduceMul, Nat.reduceLT, Nat.reduceLeDiff, Nat.reduceSub, Nat.reduceEqDiff, Nat.zero_add, Nat.add_zero, e4, b2, b3, hR1.rw.ra.1, e5']
      exact ⟨trivial, fun _ => h _ _ _ hR1, fun z => ⟨trivial, fun _ => h _ _ _ hR1, fun z2 => absurd hm (by omega)⟩⟩
    | succ r ih =>
      intro i m hm hi σ1 τ1 hR1 e1 e2 e3 e4
      have hlt := nP_le hR1.rw.a
      have e5' : σ1 2 5 = nI (nP σ) := by rw [← e1]; exact (cl_lt hR1.rw.a.1 (by decide)).2
      have him : i < n ∧ i < nP σ := by omega
      apply vb_SD_funds_55
      simp (disch := omega) only [nI_clamp, nI_add, pk_mul, pk_sub, ↓pk_rem, pk_div, k_mod, k_m1, nI_ltI, nI_leI, nI_eq, k_n0lt, k_nle0, k_0ltn, k_0len, k_n0eq, k_vin, Nat.reduceAdd, Nat.reduceMul, Nat.reduceLT, Nat.reduceLeDiff, Nat.reduceSub, Nat.reduceEqDiff, Nat.zero_add, Nat.add_zero]
      refine ⟨fun q => absurd q (by omega), fun _ => T_numberAt hs (by omega) (T_isWithin ?_)⟩
      have ev : τ1 7 (24 * s + i) = σ1 62 (24 * s + i) := by rw [e3, e2]; exact hS.2 _ (by omega)
      refine k_ifn (fun q3 => ⟨trivial, ?_⟩) (fun q3 => fun w hw => ⟨τ1, hR1, ?_⟩)
      · have hv := (k_w0 (by decide)).mp q3
        rintro _ rfl
        have hw6 := hR1.rw.up6 (p := i) (v := σ1 62 (24 * s + i)) (by omega) hv
        have hR2 := hR1.now hw6 hR1.1.2 (fun i hi => k_put_ne (by omega))
        have := ih (i + 1) m hm (by omega) _ _ hR2 (by show cl (k_put σ1 6 _ 2 5) = nP σ; rw [k_put_ne (by decide)]; exact e1) (by rw [k_put_ne (by decide)]; exact e2) (by rw [k_put_ne (by decide)]; exact e3) (by rw [k_put_ne (by decide)]; exact e4)
        refine WP.monoI this (fun v σ' hk w hw => ?_)
        obtain ⟨τ2, g1, g2⟩ := hk w hw
        refine ⟨τ2, g1, ?_⟩
        apply vb_Md_funds_18
        simp (disch := omega) only [nI_clamp, nI_add, pk_mul, pk_sub, ↓pk_rem, pk_div, k_mod, k_m1, nI_ltI, nI_leI, nI_eq, k_n0lt, k_nle0, k_0ltn, k_0len, k_n0eq, k_vin, Nat.reduceAdd, Nat.reduceMul, Nat.reduceLT, Nat.reduceLeDiff, Nat.reduceSub, Nat.reduceEqDiff, Nat.zero_add, Nat.add_zero, e4, b2, b3, hR1.rw.ra.1, e5', ev]
        refine ⟨trivial, fun z => absurd z (by omega), fun _ => ⟨trivial, fun z => absurd z (by omega), fun _ => ⟨trivial, T_in (k_ifT q3 ⟨trivial, T_Mlay (by omega) (by decide) ?_⟩)⟩⟩⟩
        rw [ev]
        exact g2
      · apply vb_Md_funds_18
        simp (disch := omega) only [nI_clamp, nI_add, pk_mul, pk_sub, ↓pk_rem, pk_div, k_mod, k_m1, nI_ltI, nI_leI, nI_eq, k_n0lt, k_nle0, k_0ltn, k_0len, k_n0eq, k_vin, Nat.reduceAdd, Nat.reduceMul, Nat.reduceLT, Nat.reduceLeDiff, Nat.reduceSub, Nat.reduceEqDiff, Nat.zero_add, Nat.add_zero, e4, b2, b3, hR1.rw.ra.1, e5', ev]
        exact ⟨trivial, fun z => absurd z (by omega), fun _ => ⟨trivial, fun z => absurd z (by omega), fun _ => ⟨trivial, T_in (k_ifF q3 (h _ _ _ hR1))⟩⟩⟩
  have em : (if nP σ < n then nI (nP σ) else nI n) = nI (min n (nP σ)) := by
    by_cases z : nP σ < n
    · rw [if_pos z, Nat.min_eq_right (by omega)]
    · rw [if_neg z, Nat.min_eq_left (by omega)]
  rw [em]
  refine ⟨trivial, WP.monoI (key (min n (nP σ)) 0 _ rfl (by omega) σ τ hR rfl rfl rfl rfl) (fun v σ' hk => ?_)⟩
  obtain ⟨τ2, -, g⟩ := hk v rfl
  exact vc_Md_funds (T_notThere (fun z => absurd q z) (fun t ht et z => absurd (by rw [sc ht et] at z; rw [← b1]; exact z) q2) (fun t ht et z => ⟨fun _ => g, fun z => absurd rfl z⟩))
end P36

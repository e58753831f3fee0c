/-! promises 14, 15: the reference's reading, levels -/
section P55
variable {E : KE} {S : Shp} {d u o n pl : Nat} {c : List Nat} {T τ : Sg} {t : Nat → Int32} {K : Int32 → Sg → Prop} {L : Sg → Prop}
theorem T_times {D : Nat} {q : Nat → Res} (hT : RTp T n t) (hn : n ≤ 60) (hq : PM n q) (hQ : RPat E D mX11_one n T u o q) : RPat E (D + 1) mX11_times n T u o (lvlF t n q 1) := by
  refine T_lvR (t := t) (lev := 4) (W := fun L σ => WP E shR mX11_times (D + 1) 4 [some (.ref 0), none] [] σ (k_qn L)) hn hq hQ (fun τ L h => vc_Md_times h) (fun τ' L hb hl => ?_) (fun τ' pl c L hS hpl h1 h2 => ?_)
  · apply vb_Md_times_4
    exact ⟨fun _ => hl, fun z => absurd z hb⟩
  · apply vb_Md_times_4
    refine ⟨fun z => absurd hS.2.2.2.2.1 z, fun _ => T_look hT hn hS hpl ⟨fun e => T_look hT hn hS hpl ?_, fun n1 => T_look hT hn hS hpl ⟨fun e => T_look hT hn hS hpl ?_, fun n2 => T_look hT hn hS hpl ⟨fun n3 => h1 ?_, fun e => T_look hT hn hS hpl ?_⟩⟩⟩⟩
    · rw [e]; exact h2 42 (by decide) e
    · rw [e]; exact h2 47 (by decide) e
    · rintro ⟨c, hc, e⟩
      simp [sgL] at hc
      rcases hc with rfl | rfl | rfl
      · exact n1 e
      · exact n2 e
      · exact n3 e
    · rw [e]; exact h2 37 (by decide) e
theorem T_Rsum {D : Nat} {q : Nat → Res} (hT : RTp T n t) (hn : n ≤ 60) (hq : PM n q) (hQ : RPat E D mX11_one n T u o q) : RPat E (D + 2) mX11_sum n T u o (lvlF t n q 2) := by
  refine T_lvR (t := t) (lev := 3) (W := fun L σ => WP E shR mX11_sum (D + 2) 4 [some (.ref 0), none] [] σ (k_qn L)) hn (lvl_le (t := t) hq 1) (T_times hT hn hq hQ) (fun τ L h => vc_Md_sum h) (fun τ' L hb hl => ?_) (fun τ' pl c L hS hpl h1 h2 => ?_)
  · apply vb_Md_sum_4
    exact ⟨fun _ => hl, fun z => absurd z hb⟩
  · apply vb_Md_sum_4
    refine ⟨fun z => absurd hS.2.2.2.2.1 z, fun _ => T_look hT hn hS hpl ⟨fun e => T_look hT hn hS hpl ?_, fun n1 => T_look hT hn hS hpl ⟨fun n2 => h1 ?_, fun e => T_look hT hn hS hpl ?_⟩⟩⟩
    · rw [e]; exact h2 43 (by decide) e
    · rintro ⟨c, hc, e⟩
      simp [sgL] at hc
      rcases hc with rfl | rfl
      · exact n1 e
      · exact n2 e
    · rw [e]; exact h2 45 (by decide) e
theorem T_compares {D : Nat} {q : Nat → Res} (hT : RTp T n t) (hn : n ≤ 60) (hq : PM n q) (hQ : RPat E D mX11_one n T u o q) : RPat E (D + 3) mX11_compares n T u o (lvlF t n q 3) := by
  have hs := T_Rsum hT hn hq hQ
  have pm := lvl_le (t := t) hq 2
  intro τ pl c L hS hpl hc hP
  have hP : RPost T u o c (if (lvlF t n q 2 pl).1 = true then lpF t n (lvlF t n q 2) 2 1 (lvlF t n q 2 pl).2.1 (lvlF t n q 2 pl).2.2 else lvlF t n q 2 pl) L := hP
  have pp := pm pl hpl
  refine vc_Md_compares (hs τ pl c _ hS hpl hc ?_)
  generalize lvlF t n q 2 pl = s at hP pp
  refine ⟨fun g σ1 h1 => ?_, fun g σ1 h1 => ?_⟩
  · rw [if_pos g] at hP
    obtain ⟨g1, g2, g3⟩ := pp.1 g
    simp only [lpF] at hP
    refine T_look hT hn h1 g2 ⟨fun z => absurd h1.2.2.2.2.1 z, fun _ => ?_⟩
    have one : ∀ ch, ch ∈ sgL 2 → hrF t n s.2.1 = nI ch → ∀ σ4, σ4 = k_put σ1 0 (upd (σ1 0) 13 ((σ1 0 13) + (nI 1))) → CallN E shR (D + 2) mX11_sum [.ref 0] σ4 (fun σ6 => CallN E shR (D + 2) mX11_step [.ref 0, .int (nI ch), .int (nI 0)] σ6 (fun σ7 => L σ7)) := by
      intro ch hch e σ4 e4
      have sg : sgF 2 (hrF t n s.2.1) := ⟨ch, hch, e⟩
      rw [if_pos sg] at hP
      have hl := sg_lt sg
      have ecl : cl (hrF t n s.2.1) = ch := by
        rw [e]
        have h2 : ch < 200 := sg_200 ch hch
        exact nI_clamp (by omega)
      rw [ecl] at hP
      have hS3 := h1.mv e4
      have p2 := pm (s.2.1 + 1) hl
      refine hs σ4 (s.2.1 + 1) (c ++ s.2.2) _ hS3 hl (by rw [List.length_append]; omega) ?_
      generalize lvlF t n q 2 (s.2.1 + 1) = s2 at hP p2
      refine ⟨fun g' σ5 h5 => ?_, fun g' σ5 h5 => ?_⟩
      · rw [if_pos g'] at hP
        obtain ⟨k1, k2, k3⟩ := p2.1 g'
        have hlen : (c ++ s.2.2 ++ s2.2.2).length < 60 := by rw [List.length_append, List.length_append]; omega
        refine T_step (x := 20000 + ch) (Or.inr (Or.inr (Or.inr ⟨ch, sg_ops ch hch, rfl, rfl⟩))) h5 hlen (fun σ6 h6 => hP.1 rfl _ ?_)
        have ea : c ++ s.2.2 ++ s2.2.2 ++ [20000 + ch] = c ++ (s.2.2 ++ (s2.2.2 ++ [20000 + ch])) := by simp only [List.append_assoc]
        rw [ea] at h6
        exact h6
      · rw [if_neg g'] at hP
        exact T_stepB h5 (fun σ6 h6 => hP.2 g' _ h6)
    refine ⟨fun e => ?_, fun n1 => ⟨fun e => ?_, fun n2 => ⟨fun n3 => ?_, fun e => ?_⟩⟩⟩
    · rw [e]; exact one 60 (by decide) e
    · rw [e]; exact one 61 (by decide) e
    · have no : ¬ sgF 2 (hrF t n s.2.1) := by
        rintro ⟨c, hc, e⟩
        simp [sgL] at hc
        rcases hc with rfl | rfl | rfl
        · exact n1 e
        · exact n2 e
        · exact n3 e
      rw [if_neg no] at hP
      exact hP.1 rfl _ h1
    · rw [e]; exact one 62 (by decide) e
  · rw [if_neg g] at hP
    exact T_lookB hT hn h1 (pp.2 g) (fun v => ⟨fun _ => hP.2 g _ h1, fun z => absurd z h1.2.2.2.2.1⟩)
theorem T_all {D : Nat} {q : Nat → Res} (hT : RTp T n t) (hn : n ≤ 60) (hq : PM n q) (hQ : RPat E D mX11_one n T u o q) : RPat E (D + 4) mX11_all n T u o (lvlF t n q 4) := by
  refine T_lvR (t := t) (lev := 1) (W := fun L σ => WP E shR mX11_all (D + 4) 4 [some (.ref 0)] [] σ (k_qn L)) hn (lvl_le (t := t) hq 3) (T_compares hT hn hq hQ) (fun τ L h => vc_Md_all h) (fun τ' L hb hl => ?_) (fun τ' pl c L hS hpl h1 h2 => ?_)
  · apply vb_Md_all_4
    exact ⟨fun _ => hl, fun z => absurd z hb⟩
  · apply vb_Md_all_4
    refine ⟨fun z => absurd hS.2.2.2.2.1 z, fun _ => T_look hT hn hS hpl ⟨fun n1 => h1 ?_, fun e => h2 38 (by decide) e⟩⟩
    rintro ⟨c, hc, e⟩
    simp [sgL] at hc
    subst hc
    exact n1 e
theorem T_any {D : Nat} {q : Nat → Res} (hT : RTp T n t) (hn : n ≤ 60) (hq : PM n q) (hQ : RPat E D mX11_one n T u o q) : RPat E (D + 5) mX11_any n T u o (lvlF t n q 5) := by
  refine T_lvR (t := t) (lev := 0) (W := fun L σ => WP E shR mX11_any (D + 5) 4 [some (.ref 0)] [] σ (k_qn L)) hn (lvl_le (t := t) hq 4) (T_all hT hn hq hQ) (fun τ L h => vc_Md_any h) (fun τ' L hb hl => ?_) (fun τ' pl c L hS hpl h1 h2 => ?_)
  · apply vb_Md_any_4
    exact ⟨fun _ => hl, fun z => absurd z hb⟩
  · apply vb_Md_any_4
    refine ⟨fun z => absurd hS.2.2.2.2.1 z, fun _ => T_look hT hn hS hpl ⟨fun n1 => h1 ?_, fun e => h2 124 (by decide) e⟩⟩
    rintro ⟨c, hc, e⟩
    simp [sgL] at hc
    subst hc
    exact n1 e
theorem T_Rnumber (hT : RTp T n t) (hn : n ≤ 60) (h : RSok T u o pl c τ) (hpl : pl ≤ n) (hc : c.length ≤ pl) (hL : dgF (hrF t n pl) = true → ∀ τ', RSok T u o (nbF t n 4 0 pl).2 (c ++ [(nbF t n 4 0 pl).1]) τ' → L τ') (hB : ¬ dgF (hrF t n pl) = true → ∀ τ', RSbad T u o pl τ' → L τ') : CallN E shR (d + 1) mX11_number [.ref 0] τ L := by
  have dg_in : ∀ b : Int32, ((nI 48).toInt ≤ b.toInt ∧ b.toInt ≤ (nI 57).toInt) ↔ dgF b = true := by
    intro b
    unfold dgF
    rw [Bool.and_eq_true, decide_eq_true_iff, decide_eq_true_iff, k_lti, k_lti]
    omega
  refine vc_Md_number ?_
  have loop : ∀ m i v pl' τ', m + i = 4 → i ≠ 0 → pl' ≤ n → c.length < 60 → dgF (hrF t n pl) = true → v < 10 ^ i → RSok T u o pl' c τ' → nbF t n m v pl' = nbF t n 4 0 pl → WP E shR mX11_number (d + 1) 4 [some (.ref 0), some (.int (nI v)), some (.int (nI i))] [] τ' (k_qn L) := by
    intro m
    induction m with
    | zero =>
      intro i v pl' τ' hi h0 hp hc hd hv hS e
      have ei : i = 4 := by omega
      subst ei
      have e : (v, pl') = nbF t n 4 0 pl := e
      rw [← e] at hL
      apply vb_Md_number_4
      refine ⟨fun _ => ⟨fun _ => ?_, fun z => absurd z (by decide)⟩, fun z => absurd (Int32.le_refl _) z⟩
      rintro _ rfl
      exact T_step (Or.inl ⟨rfl, rfl, ⟨v, by omega, rfl⟩⟩) hS.good hc (hL hd)
    | succ m ih =>
      intro i v pl' τ' hi h0 hp hc hd hv hS e
      rw [show nbF t n (m + 1) v pl' = if dgF (hrF t n pl') = true then nbF t n m (v * 10 + (cl (hrF t n pl') - 48)) (pl' + 1) else (v, pl') from rfl] at e
      have p4 : 10 ^ i ≤ 10 ^ 4 := Nat.pow_le_pow_right (by decide) (by omega)
      apply vb_Md_number_4
      rw [nI_leI (by omega) (by omega)]
      refine ⟨fun z => absurd z (by omega), fun _ => T_look hT hn hS hp (T_in ?_)⟩
      rw [k_bc (dg_in _)]
      refine k_if (fun q => ⟨fun _ => ?_, fun z => absurd z (by rw [k_n0eq (by omega)]; exact h0)⟩) (fun q => T_look hT hn hS hp ?_)
      · rw [if_neg q] at e
        rw [← e] at hL
        rintro _ rfl
        exact T_step (Or.inl ⟨rfl, rfl, ⟨v, by omega, rfl⟩⟩) hS.good hc (hL hd)
      · rw [if_pos q] at e
        have hl := dg_lt q
        obtain ⟨j, j1, j2, ej⟩ := dg_nI q
        have ecl : cl (hrF t n pl') = j := by rw [ej]; exact nI_clamp (by omega)
        rw [ecl] at e
        rw [ej]
        intro σ9 e9
        have en : nI 10 * nI v + nI j - nI 48 = nI (v * 10 + (j - 48)) := by
          rw [pk_mul, nI_add, pk_sub (by omega)]
          congr 1
          omega
        rw [en, nI_add]
        refine ih (i + 1) _ _ _ (by omega) (by omega) (by omega) hc hd ?_ (hS.mv e9) e
        rw [Nat.pow_succ]
        omega
  apply vb_Md_number_4
  refine ⟨fun z => absurd z (by decide), fun _ => T_look hT hn h hpl (T_in ?_)⟩
  rw [k_bc (dg_in _)]
  refine k_if (fun q => ⟨fun z => absurd rfl z, fun _ => ?_⟩) (fun q => T_look hT hn h hpl ?_)
  · rintro _ rfl
    exact T_stepB (h.bad (by omega)) (hB q)
  · have hl := dg_lt q
    obtain ⟨j, j1, j2, ej⟩ := dg_nI q
    have ecl : cl (hrF t n pl) = j := by rw [ej]; exact nI_clamp (by omega)
    have e : nbF t n 4 0 pl = nbF t n 3 (0 * 10 + (cl (hrF t n pl) - 48)) (pl + 1) := by
      rw [show nbF t n 4 0 pl = if dgF (hrF t n pl) = true then nbF t n 3 (0 * 10 + (cl (hrF t n pl) - 48)) (pl + 1) else (0, pl) from rfl, if_pos q]
    rw [ecl] at e
    rw [ej]
    intro σ9 e9
    have en : nI 10 * nI 0 + nI j - nI 48 = nI (0 * 10 + (j - 48)) := by
      rw [pk_mul, nI_add, pk_sub (by omega)]
      congr 1
      omega
    rw [en]
    exact loop 3 1 _ _ _ rfl (by decide) (by omega) (by omega) q (by omega) (h.mv e9) e.symm
end P55

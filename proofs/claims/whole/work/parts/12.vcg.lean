set_option maxRecDepth 20000 in
set_option maxHeartbeats 2000000 in
theorem vc_Kinds_isKindAndNumber {E : KE} {S : Shp} {d : Nat} {x0 : Int32} {σ : Sg} {K : Int32 → Sg → Prop} (h : (x0 < 0 → K (nI 0) σ) ∧ (¬ x0 < 0 → ((nI 70) ≤ x0 → K (nI 0) σ) ∧ (¬ (nI 70) ≤ x0 → K (nI 1) σ))) : CallI E S d mX0_isKindAndNumber [.int x0] σ K := by
  refine wp_enter (Lo := [some (.int x0)]) mp_X0_isKindAndNumber (Nat.le_of_ble_eq_true rfl) rfl ?_
  refine wp_iload_n (i := 0) dX0_isKindAndNumber_0 rfl rfl ?_
  refine wp_iflt (tgt := 14) dX0_isKindAndNumber_1 (by decide) ⟨fun q => ?_, fun q => ?_⟩
  · replace h := h.1 q
    refine wp_iconst (v := nI 0) dX0_isKindAndNumber_14 rfl ?_
    exact wp_zreturn dX0_isKindAndNumber_15 rfl ⟨rfl, _, rfl, h⟩
  · replace h := h.2 q
    refine wp_iload_n (i := 0) dX0_isKindAndNumber_4 rfl rfl ?_
    refine wp_bipush (v := nI 70) dX0_isKindAndNumber_5 (by decide) ?_
    refine wp_icmpge (tgt := 14) dX0_isKindAndNumber_7 (by decide) ⟨fun q => ?_, fun q => ?_⟩
    · replace h := h.1 q
      refine wp_iconst (v := nI 0) dX0_isKindAndNumber_14 rfl ?_
      exact wp_zreturn dX0_isKindAndNumber_15 rfl ⟨rfl, _, rfl, h⟩
    · replace h := h.2 q
      refine wp_iconst (v := nI 1) dX0_isKindAndNumber_10 rfl ?_
      refine wp_goto (tgt := 15) dX0_isKindAndNumber_11 (by decide) ?_
      exact wp_zreturn dX0_isKindAndNumber_15 rfl ⟨rfl, _, rfl, h⟩
set_option maxRecDepth 20000 in
set_option maxHeartbeats 2000000 in
theorem vc_Md_in {E : KE} {S : Shp} {d : Nat} {x0 : Int32} {x1 : Int32} {x2 : Int32} {σ : Sg} {K : Int32 → Sg → Prop} (h : (x0 < x1 → K (nI 0) σ) ∧ (¬ x0 < x1 → (x2 < x0 → K (nI 0) σ) ∧ (¬ x2 < x0 → K (nI 1) σ))) : CallI E S d mX11_in [.int x0, .int x1, .int x2] σ K := by
  refine wp_enter (Lo := [some (.int x0), some (.int x1), some (.int x2)]) mp_X11_in (Nat.le_of_ble_eq_true rfl) rfl ?_
  refine wp_iload_n (i := 0) dX11_in_0 rfl rfl ?_
  refine wp_iload_n (i := 1) dX11_in_1 rfl rfl ?_
  refine wp_icmplt (tgt := 14) dX11_in_2 (by decide) ⟨fun q => ?_, fun q => ?_⟩
  · replace h := h.1 q
    refine wp_iconst (v := nI 0) dX11_in_14 rfl ?_
    exact wp_zreturn dX11_in_15 rfl ⟨rfl, _, rfl, h⟩
  · replace h := h.2 q
    refine wp_iload_n (i := 0) dX11_in_5 rfl rfl ?_
    refine wp_iload_n (i := 2) dX11_in_6 rfl rfl ?_
    refine wp_icmpgt (tgt := 14) dX11_in_7 (by decide) ⟨fun q => ?_, fun q => ?_⟩
    · replace h := h.1 q
      refine wp_iconst (v := nI 0) dX11_in_14 rfl ?_
      exact wp_zreturn dX11_in_15 rfl ⟨rfl, _, rfl, h⟩
    · replace h := h.2 q
      refine wp_iconst (v := nI 1) dX11_in_10 rfl ?_
      refine wp_goto (tgt := 15) dX11_in_11 (by decide) ?_
      exact wp_zreturn dX11_in_15 rfl ⟨rfl, _, rfl, h⟩
set_option maxRecDepth 20000 in
set_option maxHeartbeats 2000000 in
theorem vc_Md_isKm {E : KE} {S : Shp} {d : Nat} {x0 : Int32} {σ : Sg} {K : Int32 → Sg → Prop} (h : CallI E S d mX11_in [.int x0, .int (nI 0), .int (nI 69)] σ (fun y2 σ1 => (y2 = 0 ∨ y2 = 1) ∧ K y2 σ1)) : CallI E S (d + 1) mX11_isKm [.int x0] σ K := by
  refine wp_enter (Lo := [some (.int x0)]) mp_X11_isKm (Nat.le_of_ble_eq_true rfl) rfl ?_
  refine wp_iload_n (i := 0) dX11_isKm_0 rfl rfl ?_
  refine wp_iconst (v := nI 0) dX11_isKm_1 rfl ?_
  refine wp_bipush (v := nI 69) dX11_isKm_2 (by decide) ?_
  refine wp_callSI (vs := [.int x0, .int (nI 0), .int (nI 69)]) (rest := []) dX11_isKm_4 mS_X11_in lm_X11_53 rfl rfl (Nat.le_of_ble_eq_true rfl) (CallI.mono h (fun y2 σ1 h => ?_))
  exact wp_zreturn dX11_isKm_7 rfl ⟨k_bool h.1, _, rfl, h.2⟩
set_option maxRecDepth 20000 in
set_option maxHeartbeats 2000000 in
theorem vc_SD_isWithin {E : KE} {S : Shp} {d : Nat} {x0 : Int32} {x1 : Int32} {x2 : Int32} {σ : Sg} {K : Int32 → Sg → Prop} (h : (x0 < x1 → K (nI 0) σ) ∧ (¬ x0 < x1 → (x2 < x0 → K (nI 0) σ) ∧ (¬ x2 < x0 → K (nI 1) σ))) : CallI E S d mX10_isWithin [.int x0, .int x1, .int x2] σ K := by
  refine wp_enter (Lo := [some (.int x0), some (.int x1), some (.int x2)]) mp_X10_isWithin (Nat.le_of_ble_eq_true rfl) rfl ?_
  refine wp_iload_n (i := 0) dX10_isWithin_0 rfl rfl ?_
  refine wp_iload_n (i := 1) dX10_isWithin_1 rfl rfl ?_
  refine wp_icmplt (tgt := 14) dX10_isWithin_2 (by decide) ⟨fun q => ?_, fun q => ?_⟩
  · replace h := h.1 q
    refine wp_iconst (v := nI 0) dX10_isWithin_14 rfl ?_
    exact wp_zreturn dX10_isWithin_15 rfl ⟨rfl, _, rfl, h⟩
  · replace h := h.2 q
    refine wp_iload_n (i := 0) dX10_isWithin_5 rfl rfl ?_
    refine wp_iload_n (i := 2) dX10_isWithin_6 rfl rfl ?_
    refine wp_icmpgt (tgt := 14) dX10_isWithin_7 (by decide) ⟨fun q => ?_, fun q => ?_⟩
    · replace h := h.1 q
      refine wp_iconst (v := nI 0) dX10_isWithin_14 rfl ?_
      exact wp_zreturn dX10_isWithin_15 rfl ⟨rfl, _, rfl, h⟩
    · replace h := h.2 q
      refine wp_iconst (v := nI 1) dX10_isWithin_10 rfl ?_
      refine wp_goto (tgt := 15) dX10_isWithin_11 (by decide) ?_
      exact wp_zreturn dX10_isWithin_15 rfl ⟨rfl, _, rfl, h⟩
set_option maxRecDepth 20000 in
set_option maxHeartbeats 2000000 in
theorem vb_Kinds_lives_13 {E : KE} {S : Shp} {d : Nat} {x0 : Int32} {x1 : Int32} {x2 : Int32} {x3 : Int32} {z0 : Int32} {σ : Sg} {K : Int32 → Sg → Prop} (h : (x2 ≤ (nI 1) → (x0 = nI 1 → K z0 σ) ∧ (x0 = nI 2 → K x2 σ) ∧ (x0 = nI 3 → K ((x2 + (nI 1)) / (nI 2)) σ) ∧ (x0 = nI 4 → (¬ x3 = ((x1 + (nI 1)) - (x1 + (nI 1)) / (nI 7) * (nI 7)) → K z0 σ) ∧ (x3 = ((x1 + (nI 1)) - (x1 + (nI 1)) / (nI 7) * (nI 7)) → K (z0 * (nI 2)) σ)) ∧ (x0 = nI 5 → (x3 ≤ (nI 4) → K x2 σ) ∧ (¬ x3 ≤ (nI 4) → K (x2 + x1) σ)) ∧ (x0 = nI 6 → K (nI 1) σ) ∧ (¬ x0 = nI 1 → ¬ x0 = nI 2 → ¬ x0 = nI 3 → ¬ x0 = nI 4 → ¬ x0 = nI 5 → ¬ x0 = nI 6 → K x2 σ)) ∧ (¬ x2 ≤ (nI 1) → (x0 = nI 1 → K z0 σ) ∧ (x0 = nI 2 → K (x2 + (nI 1)) σ) ∧ (x0 = nI 3 → K ((x2 + (nI 1)) / (nI 2)) σ) ∧ (x0 = nI 4 → (¬ x3 = ((x1 + (nI 1)) - (x1 + (nI 1)) / (nI 7) * (nI 7)) → K z0 σ) ∧ (x3 = ((x1 + (nI 1)) - (x1 + (nI 1)) / (nI 7) * (nI 7)) → K (z0 * (nI 2)) σ)) ∧ (x0 = nI 5 → (x3 ≤ (nI 4) → K (x2 + (nI 1)) σ) ∧ (¬ x3 ≤ (nI 4) → K ((x2 + (nI 1)) + x1) σ)) ∧ (x0 = nI 6 → K (nI 1) σ) ∧ (¬ x0 = nI 1 → ¬ x0 = nI 2 → ¬ x0 = nI 3 → ¬ x0 = nI 4 → ¬ x0 = nI 5 → ¬ x0 = nI 6 → K x2 σ))) : WP E S mX0_lives d 13 [some (.int x0), some (.int x1), some (.int x2), some (.int x3), none, none] [.int z0] σ (k_qi K) := by
  refine wp_istore (i := 4) (Lo' := [some (.int x0), some (.int x1), some (.int x2), some (.int x3), some (.int z0), none]) dX0_lives_13 (by decide) rfl rfl ?_
  refine wp_iload_n (i := 2) dX0_lives_15 rfl rfl ?_
  refine wp_iconst (v := nI 1) dX0_lives_16 rfl ?_
  refine wp_icmple (tgt := 26) dX0_lives_17 (by decide) ⟨fun q => ?_, fun q => ?_⟩
  · replace h := h.1 q
    refine wp_iload_n (i := 2) dX0_lives_26 rfl rfl ?_
    refine wp_istore (i := 5) (Lo' := [some (.int x0), some (.int x1), some (.int x2), some (.int x3), some (.int z0), some (.int x2)]) dX0_lives_27 (by decide) rfl rfl ?_
    refine wp_iload_n (i := 0) dX0_lives_29 rfl rfl ?_
    rcases Classical.em (x0 = nI 1) with q0 | q0
    · replace h := h.1 q0
      refine wp_tswIn (off := 38) (tgt := 68) dX0_lives_30 (by rw [q0]; decide) (by rw [q0]; decide) (by rw [q0]; rfl) (by decide) ?_
      refine wp_iload (i := 4) dX0_lives_68 rfl ?_
      exact wp_ireturn dX0_lives_70 rfl ⟨_, rfl, h⟩
    rcases Classical.em (x0 = nI 2) with q1 | q1
    · replace h := h.2.1 q1
      refine wp_tswIn (off := 41) (tgt := 71) dX0_lives_30 (by rw [q1]; decide) (by rw [q1]; decide) (by rw [q1]; rfl) (by decide) ?_
      refine wp_iload (i := 5) dX0_lives_71 rfl ?_
      exact wp_ireturn dX0_lives_73 rfl ⟨_, rfl, h⟩
    rcases Classical.em (x0 = nI 3) with q2 | q2
    · replace h := h.2.2.1 q2
      refine wp_tswIn (off := 44) (tgt := 74) dX0_lives_30 (by rw [q2]; decide) (by rw [q2]; decide) (by rw [q2]; rfl) (by decide) ?_
      refine wp_iload_n (i := 2) dX0_lives_74 rfl rfl ?_
      refine wp_iconst (v := nI 1) dX0_lives_75 rfl ?_
      refine wp_iadd dX0_lives_76 ?_
      refine wp_iconst (v := nI 2) dX0_lives_77 rfl ?_
      refine wp_idiv dX0_lives_78 ⟨by decide, ?_⟩
      exact wp_ireturn dX0_lives_79 rfl ⟨_, rfl, h⟩
    rcases Classical.em (x0 = nI 4) with q3 | q3
    · replace h := h.2.2.2.1 q3
      refine wp_tswIn (off := 50) (tgt := 80) dX0_lives_30 (by rw [q3]; decide) (by rw [q3]; decide) (by rw [q3]; rfl) (by decide) ?_
      refine wp_iload_n (i := 3) dX0_lives_80 rfl rfl ?_
      refine wp_iload_n (i := 1) dX0_lives_81 rfl rfl ?_
      refine wp_iconst (v := nI 1) dX0_lives_82 rfl ?_
      refine wp_iadd dX0_lives_83 ?_
      refine wp_bipush (v := nI 7) dX0_lives_84 (by decide) ?_
      refine wp_irem dX0_lives_86 ⟨by decide, ?_⟩
      refine wp_icmpne (tgt := 97) dX0_lives_87 (by decide) ⟨fun q => ?_, fun q => ?_⟩
      · replace h := h.1 q
        refine wp_iload (i := 4) dX0_lives_97 rfl ?_
        exact wp_ireturn dX0_lives_99 rfl ⟨_, rfl, h⟩
      · replace h := h.2 q
        refine wp_iload (i := 4) dX0_lives_90 rfl ?_
        refine wp_iconst (v := nI 2) dX0_lives_92 rfl ?_
        refine wp_imul dX0_lives_93 ?_
        refine wp_goto (tgt := 99) dX0_lives_94 (by decide) ?_
        exact wp_ireturn dX0_lives_99 rfl ⟨_, rfl, h⟩
    rcases Classical.em (x0 = nI 5) with q4 | q4
    · replace h := h.2.2.2.2.1 q4
      refine wp_tswIn (off := 70) (tgt := 100) dX0_lives_30 (by rw [q4]; decide) (by rw [q4]; decide) (by rw [q4]; rfl) (by decide) ?_
      refine wp_iload_n (i := 3) dX0_lives_100 rfl rfl ?_
      refine wp_iconst (v := nI 4) dX0_lives_101 rfl ?_
      refine wp_icmple (tgt := 112) dX0_lives_102 (by decide) ⟨fun q => ?_, fun q => ?_⟩
      · replace h := h.1 q
        refine wp_iload (i := 5) dX0_lives_112 rfl ?_
        exact wp_ireturn dX0_lives_114 rfl ⟨_, rfl, h⟩
      · replace h := h.2 q
        refine wp_iload (i := 5) dX0_lives_105 rfl ?_
        refine wp_iload_n (i := 1) dX0_lives_107 rfl rfl ?_
        refine wp_iadd dX0_lives_108 ?_
        refine wp_goto (tgt := 114) dX0_lives_109 (by decide) ?_
        exact wp_ireturn dX0_lives_114 rfl ⟨_, rfl, h⟩
    rcases Classical.em (x0 = nI 6) with q5 | q5
    · replace h := h.2.2.2.2.2.1 q5
      refine wp_tswIn (off := 85) (tgt := 115) dX0_lives_30 (by rw [q5]; decide) (by rw [q5]; decide) (by rw [q5]; rfl) (by decide) ?_
      refine wp_iconst (v := nI 1) dX0_lives_115 rfl ?_
      exact wp_ireturn dX0_lives_116 rfl ⟨_, rfl, h⟩
    have nq0 := lv_neT q0 (show ((nI 1) : Int32).toInt = 1 by decide)
    have nq1 := lv_neT q1 (show ((nI 2) : Int32).toInt = 2 by decide)
    have nq2 := lv_neT q2 (show ((nI 3) : Int32).toInt = 3 by decide)
    have nq3 := lv_neT q3 (show ((nI 4) : Int32).toInt = 4 by decide)
    have nq4 := lv_neT q4 (show ((nI 5) : Int32).toInt = 5 by decide)
    have nq5 := lv_neT q5 (show ((nI 6) : Int32).toInt = 6 by decide)
    replace h := h.2.2.2.2.2.2 q0 q1 q2 q3 q4 q5
    refine wp_tswOut (tgt := 117) dX0_lives_30 (by omega) (by decide) ?_
    refine wp_iload_n (i := 2) dX0_lives_117 rfl rfl ?_
    exact wp_ireturn dX0_lives_118 rfl ⟨_, rfl, h⟩
  · replace h := h.2 q
    refine wp_iload_n (i := 2) dX0_lives_20 rfl rfl ?_
    refine wp_iconst (v := nI 1) dX0_lives_21 rfl ?_
    refine wp_iadd dX0_lives_22 ?_
    refine wp_goto (tgt := 27) dX0_lives_23 (by decide) ?_
    refine wp_istore (i := 5) (Lo' := [some (.int x0), some (.int x1), some (.int x2), some (.int x3), some (.int z0), some (.int (x2 + (nI 1)))]) dX0_lives_27 (by decide) rfl rfl ?_
    refine wp_iload_n (i := 0) dX0_lives_29 rfl rfl ?_
    rcases Classical.em (x0 = nI 1) with q0 | q0
    · replace h := h.1 q0
      refine wp_tswIn (off := 38) (tgt := 68) dX0_lives_30 (by rw [q0]; decide) (by rw [q0]; decide) (by rw [q0]; rfl) (by decide) ?_
      refine wp_iload (i := 4) dX0_lives_68 rfl ?_
      exact wp_ireturn dX0_lives_70 rfl ⟨_, rfl, h⟩
    rcases Classical.em (x0 = nI 2) with q1 | q1
    · replace h := h.2.1 q1
      refine wp_tswIn (off := 41) (tgt := 71) dX0_lives_30 (by rw [q1]; decide) (by rw [q1]; decide) (by rw [q1]; rfl) (by decide) ?_
      refine wp_iload (i := 5) dX0_lives_71 rfl ?_
      exact wp_ireturn dX0_lives_73 rfl ⟨_, rfl, h⟩
    rcases Classical.em (x0 = nI 3) with q2 | q2
    · replace h := h.2.2.1 q2
      refine wp_tswIn (off := 44) (tgt := 74) dX0_lives_30 (by rw [q2]; decide) (by rw [q2]; decide) (by rw [q2]; rfl) (by decide) ?_
      refine wp_iload_n (i := 2) dX0_lives_74 rfl rfl ?_
      refine wp_iconst (v := nI 1) dX0_lives_75 rfl ?_
      refine wp_iadd dX0_lives_76 ?_
      refine wp_iconst (v := nI 2) dX0_lives_77 rfl ?_
      refine wp_idiv dX0_lives_78 ⟨by decide, ?_⟩
      exact wp_ireturn dX0_lives_79 rfl ⟨_, rfl, h⟩
    rcases Classical.em (x0 = nI 4) with q3 | q3
    · replace h := h.2.2.2.1 q3
      refine wp_tswIn (off := 50) (tgt := 80) dX0_lives_30 (by rw [q3]; decide) (by rw [q3]; decide) (by rw [q3]; rfl) (by decide) ?_
      refine wp_iload_n (i := 3) dX0_lives_80 rfl rfl ?_
      refine wp_iload_n (i := 1) dX0_lives_81 rfl rfl ?_
      refine wp_iconst (v := nI 1) dX0_lives_82 rfl ?_
      refine wp_iadd dX0_lives_83 ?_
      refine wp_bipush (v := nI 7) dX0_lives_84 (by decide) ?_
      refine wp_irem dX0_lives_86 ⟨by decide, ?_⟩
      refine wp_icmpne (tgt := 97) dX0_lives_87 (by decide) ⟨fun q => ?_, fun q => ?_⟩
      · replace h := h.1 q
        refine wp_iload (i := 4) dX0_lives_97 rfl ?_
        exact wp_ireturn dX0_lives_99 rfl ⟨_, rfl, h⟩
      · replace h := h.2 q
        refine wp_iload (i := 4) dX0_lives_90 rfl ?_
        refine wp_iconst (v := nI 2) dX0_lives_92 rfl ?_
        refine wp_imul dX0_lives_93 ?_
        refine wp_goto (tgt := 99) dX0_lives_94 (by decide) ?_
        exact wp_ireturn dX0_lives_99 rfl ⟨_, rfl, h⟩
    rcases Classical.em (x0 = nI 5) with q4 | q4
    · replace h := h.2.2.2.2.1 q4
      refine wp_tswIn (off := 70) (tgt := 100) dX0_lives_30 (by rw [q4]; decide) (by rw [q4]; decide) (by rw [q4]; rfl) (by decide) ?_
      refine wp_iload_n (i := 3) dX0_lives_100 rfl rfl ?_
      refine wp_iconst (v := nI 4) dX0_lives_101 rfl ?_
      refine wp_icmple (tgt := 112) dX0_lives_102 (by decide) ⟨fun q => ?_, fun q => ?_⟩
      · replace h := h.1 q
        refine wp_iload (i := 5) dX0_lives_112 rfl ?_
        exact wp_ireturn dX0_lives_114 rfl ⟨_, rfl, h⟩
      · replace h := h.2 q
        refine wp_iload (i := 5) dX0_lives_105 rfl ?_
        refine wp_iload_n (i := 1) dX0_lives_107 rfl rfl ?_
        refine wp_iadd dX0_lives_108 ?_
        refine wp_goto (tgt := 114) dX0_lives_109 (by decide) ?_
        exact wp_ireturn dX0_lives_114 rfl ⟨_, rfl, h⟩
    rcases Classical.em (x0 = nI 6) with q5 | q5
    · replace h := h.2.2.2.2.2.1 q5
      refine wp_tswIn (off := 85) (tgt := 115) dX0_lives_30 (by rw [q5]; decide) (by rw [q5]; decide) (by rw [q5]; rfl) (by decide) ?_
      refine wp_iconst (v := nI 1) dX0_lives_115 rfl ?_
      exact wp_ireturn dX0_lives_116 rfl ⟨_, rfl, h⟩
    have nq0 := lv_neT q0 (show ((nI 1) : Int32).toInt = 1 by decide)
    have nq1 := lv_neT q1 (show ((nI 2) : Int32).toInt = 2 by decide)
    have nq2 := lv_neT q2 (show ((nI 3) : Int32).toInt = 3 by decide)
    have nq3 := lv_neT q3 (show ((nI 4) : Int32).toInt = 4 by decide)
    have nq4 := lv_neT q4 (show ((nI 5) : Int32).toInt = 5 by decide)
    have nq5 := lv_neT q5 (show ((nI 6) : Int32).toInt = 6 by decide)
    replace h := h.2.2.2.2.2.2 q0 q1 q2 q3 q4 q5
    refine wp_tswOut (tgt := 117) dX0_lives_30 (by omega) (by decide) ?_
    refine wp_iload_n (i := 2) dX0_lives_117 rfl rfl ?_
    exact wp_ireturn dX0_lives_118 rfl ⟨_, rfl, h⟩
set_option maxRecDepth 20000 in
set_option maxHeartbeats 2000000 in
theorem vc_Kinds_lives {E : KE} {S : Shp} {d : Nat} {x0 : Int32} {x1 : Int32} {x2 : Int32} {x3 : Int32} {σ : Sg} {K : Int32 → Sg → Prop} (h : (¬ x3 = (x1 - x1 / (nI 7) * (nI 7)) → WP E S mX0_lives d 13 [some (.int x0), some (.int x1), some (.int x2), some (.int x3), none, none] [.int x2] σ (k_qi K)) ∧ (x3 = (x1 - x1 / (nI 7) * (nI 7)) → WP E S mX0_lives d 13 [some (.int x0), some (.int x1), some (.int x2), some (.int x3), none, none] [.int (nI 0)] σ (k_qi K))) : CallI E S d mX0_lives [.int x0, .int x1, .int x2, .int x3] σ K := by
  refine wp_enter (Lo := [some (.int x0), some (.int x1), some (.int x2), some (.int x3), none, none]) mp_X0_lives (Nat.le_of_ble_eq_true rfl) rfl ?_
  refine wp_iload_n (i := 3) dX0_lives_0 rfl rfl ?_
  refine wp_iload_n (i := 1) dX0_lives_1 rfl rfl ?_
  refine wp_bipush (v := nI 7) dX0_lives_2 (by decide) ?_
  refine wp_irem dX0_lives_4 ⟨by decide, ?_⟩
  refine wp_icmpne (tgt := 12) dX0_lives_5 (by decide) ⟨fun q => ?_, fun q => ?_⟩
  · replace h := h.1 q
    refine wp_iload_n (i := 2) dX0_lives_12 rfl rfl ?_
    exact wp_mask [true, true, true, true, false, false] h
  · replace h := h.2 q
    refine wp_iconst (v := nI 0) dX0_lives_8 rfl ?_
    refine wp_goto (tgt := 13) dX0_lives_9 (by decide) ?_
    exact wp_mask [true, true, true, true, false, false] h
set_option maxRecDepth 20000 in
set_option maxHeartbeats 2000000 in
theorem vc_Kinds_isKind {E : KE} {S : Shp} {d : Nat} {x0 : Int32} {σ : Sg} {K : Int32 → Sg → Prop} (h : (x0 < 0 → K (nI 0) σ) ∧ (¬ x0 < 0 → ((nI 7) ≤ x0 → K (nI 0) σ) ∧ (¬ (nI 7) ≤ x0 → K (nI 1) σ))) : CallI E S d mX0_isKind [.int x0] σ K := by
  refine wp_enter (Lo := [some (.int x0)]) mp_X0_isKind (Nat.le_of_ble_eq_true rfl) rfl ?_
  refine wp_iload_n (i := 0) dX0_isKind_0 rfl rfl ?_
  refine wp_iflt (tgt := 14) dX0_isKind_1 (by decide) ⟨fun q => ?_, fun q => ?_⟩
  · replace h := h.1 q
    refine wp_iconst (v := nI 0) dX0_isKind_14 rfl ?_
    exact wp_zreturn dX0_isKind_15 rfl ⟨rfl, _, rfl, h⟩
  · replace h := h.2 q
    refine wp_iload_n (i := 0) dX0_isKind_4 rfl rfl ?_
    refine wp_bipush (v := nI 7) dX0_isKind_5 (by decide) ?_
    refine wp_icmpge (tgt := 14) dX0_isKind_7 (by decide) ⟨fun q => ?_, fun q => ?_⟩
    · replace h := h.1 q
      refine wp_iconst (v := nI 0) dX0_isKind_14 rfl ?_
      exact wp_zreturn dX0_isKind_15 rfl ⟨rfl, _, rfl, h⟩
    · replace h := h.2 q
      refine wp_iconst (v := nI 1) dX0_isKind_10 rfl ?_
      refine wp_goto (tgt := 15) dX0_isKind_11 (by decide) ?_
      exact wp_zreturn dX0_isKind_15 rfl ⟨rfl, _, rfl, h⟩
set_option maxRecDepth 20000 in
set_option maxHeartbeats 2000000 in
theorem vc_Kinds_above {E : KE} {S : Shp} {d : Nat} {x0 : Int32} {σ : Sg} {K : Int32 → Sg → Prop} (h : CallI E S d mX0_isKind [.int x0] σ (fun y2 σ1 => (y2 = 0 → K (nI 0) σ1) ∧ (¬ y2 = 0 → vp_in x0 7 ∧ (K (k_tv 0 x0.toNatClampNeg) σ1)))) : CallI E S (d + 1) mX0_above [.int x0] σ K := by
  refine wp_enter (Lo := [some (.int x0)]) mp_X0_above (Nat.le_of_ble_eq_true rfl) rfl ?_
  refine wp_iload_n (i := 0) dX0_above_0 rfl rfl ?_
  refine wp_callSI (vs := [.int x0]) (rest := []) dX0_above_1 mS_X0_isKind lm_X0_11 rfl rfl (Nat.le_of_ble_eq_true rfl) (CallI.mono h (fun y2 σ1 h => ?_))
  refine wp_ifeq (tgt := 15) dX0_above_4 (by decide) ⟨fun q => ?_, fun q => ?_⟩
  · replace h := h.1 q
    refine wp_iconst (v := nI 0) dX0_above_15 rfl ?_
    exact wp_ireturn dX0_above_16 rfl ⟨_, rfl, h⟩
  · replace h := h.2 q
    refine wp_gets0 dX0_above_7 ls_X0_15 ?_
    refine wp_iload_n (i := 0) dX0_above_10 rfl rfl ?_
    refine wp_tab0 dX0_above_11 ⟨h.1, ?_⟩
    replace h := h.2
    refine wp_goto (tgt := 16) dX0_above_12 (by decide) ?_
    exact wp_ireturn dX0_above_16 rfl ⟨_, rfl, h⟩
set_option maxRecDepth 20000 in
set_option maxHeartbeats 2000000 in
theorem vb_Kinds_isUnder_4 {E : KE} {S : Shp} {d : Nat} {x1 : Int32} {x2 : Int32} {x3 : Int32} {σ : Sg} {K : Int32 → Sg → Prop} (h : ((nI 7) ≤ x3 → (¬ x2 = x1 → K (nI 0) σ) ∧ (x2 = x1 → K (nI 1) σ)) ∧ (¬ (nI 7) ≤ x3 → (x2 = x1 → (¬ x2 = x1 → K (nI 0) σ) ∧ (x2 = x1 → K (nI 1) σ)) ∧ (¬ x2 = x1 → CallI E S d mX0_above [.int x2] σ (fun y2 σ1 => WP E S mX0_isUnder (d + 1) 4 [none, some (.int x1), some (.int y2), some (.int (x3 + nI 1))] [] σ1 (k_qi K))))) : WP E S mX0_isUnder (d + 1) 4 [none, some (.int x1), some (.int x2), some (.int x3)] [] σ (k_qi K) := by
  refine wp_iload_n (i := 3) dX0_isUnder_4 rfl rfl ?_
  refine wp_bipush (v := nI 7) dX0_isUnder_5 (by decide) ?_
  refine wp_icmpge (tgt := 26) dX0_isUnder_7 (by decide) ⟨fun q => ?_, fun q => ?_⟩
  · replace h := h.1 q
    refine wp_iload_n (i := 2) dX0_isUnder_26 rfl rfl ?_
    refine wp_iload_n (i := 1) dX0_isUnder_27 rfl rfl ?_
    refine wp_icmpne (tgt := 35) dX0_isUnder_28 (by decide) ⟨fun q => ?_, fun q => ?_⟩
    · replace h := h.1 q
      refine wp_iconst (v := nI 0) dX0_isUnder_35 rfl ?_
      exact wp_zreturn dX0_isUnder_36 rfl ⟨rfl, _, rfl, h⟩
    · replace h := h.2 q
      refine wp_iconst (v := nI 1) dX0_isUnder_31 rfl ?_
      refine wp_goto (tgt := 36) dX0_isUnder_32 (by decide) ?_
      exact wp_zreturn dX0_isUnder_36 rfl ⟨rfl, _, rfl, h⟩
  · replace h := h.2 q
    refine wp_iload_n (i := 2) dX0_isUnder_10 rfl rfl ?_
    refine wp_iload_n (i := 1) dX0_isUnder_11 rfl rfl ?_
    refine wp_icmpeq (tgt := 26) dX0_isUnder_12 (by decide) ⟨fun q => ?_, fun q => ?_⟩
    · replace h := h.1 q
      refine wp_iload_n (i := 2) dX0_isUnder_26 rfl rfl ?_
      refine wp_iload_n (i := 1) dX0_isUnder_27 rfl rfl ?_
      refine wp_icmpne (tgt := 35) dX0_isUnder_28 (by decide) ⟨fun q => ?_, fun q => ?_⟩
      · replace h := h.1 q
        refine wp_iconst (v := nI 0) dX0_isUnder_35 rfl ?_
        exact wp_zreturn dX0_isUnder_36 rfl ⟨rfl, _, rfl, h⟩
      · replace h := h.2 q
        refine wp_iconst (v := nI 1) dX0_isUnder_31 rfl ?_
        refine wp_goto (tgt := 36) dX0_isUnder_32 (by decide) ?_
        exact wp_zreturn dX0_isUnder_36 rfl ⟨rfl, _, rfl, h⟩
    · replace h := h.2 q
      refine wp_iload_n (i := 2) dX0_isUnder_15 rfl rfl ?_
      refine wp_callSI (vs := [.int x2]) (rest := []) dX0_isUnder_16 mS_X0_above lm_X0_19 rfl rfl (Nat.le_of_ble_eq_true rfl) (CallI.mono h (fun y2 σ1 h => ?_))
      refine wp_istore_n (i := 2) (Lo' := [none, some (.int x1), some (.int y2), some (.int x3)]) dX0_isUnder_19 rfl (by decide) rfl rfl ?_
      refine wp_iinc (i := 3) (v := x3 + nI 1) (Lo' := [none, some (.int x1), some (.int y2), some (.int (x3 + nI 1))]) dX0_isUnder_20 rfl (by rfl) (by decide) rfl rfl ?_
      refine wp_goto (tgt := 4) dX0_isUnder_23 (by decide) ?_
      exact wp_mask [false, true, true, true] h
set_option maxRecDepth 20000 in
set_option maxHeartbeats 2000000 in
theorem vc_Kinds_isUnder {E : KE} {S : Shp} {d : Nat} {x0 : Int32} {x1 : Int32} {σ : Sg} {K : Int32 → Sg → Prop} (h : WP E S mX0_isUnder (d + 1) 4 [none, some (.int x1), some (.int x0), some (.int (nI 0))] [] σ (k_qi K)) : CallI E S (d + 1) mX0_isUnder [.int x0, .int x1] σ K := by
  refine wp_enter (Lo := [some (.int x0), some (.int x1), none, none]) mp_X0_isUnder (Nat.le_of_ble_eq_true rfl) rfl ?_
  refine wp_iload_n (i := 0) dX0_isUnder_0 rfl rfl ?_
  refine wp_istore_n (i := 2) (Lo' := [some (.int x0), some (.int x1), some (.int x0), none]) dX0_isUnder_1 rfl (by decide) rfl rfl ?_
  refine wp_iconst (v := nI 0) dX0_isUnder_2 rfl ?_
  refine wp_istore_n (i := 3) (Lo' := [some (.int x0), some (.int x1), some (.int x0), some (.int (nI 0))]) dX0_isUnder_3 rfl (by decide) rfl rfl ?_
  exact wp_mask [false, true, true, true] h
set_option maxRecDepth 20000 in
set_option maxHeartbeats 2000000 in
theorem vc_SD_isDay {E : KE} {S : Shp} {d : Nat} {x0 : Int32} {σ : Sg} {K : Int32 → Sg → Prop} (h : (x0 < 0 → K (nI 0) σ) ∧ (¬ x0 < 0 → ((nI 28) ≤ x0 → K (nI 0) σ) ∧ (¬ (nI 28) ≤ x0 → K (nI 1) σ))) : CallI E S d mX10_isDay [.int x0] σ K := by
  refine wp_enter (Lo := [some (.int x0)]) mp_X10_isDay (Nat.le_of_ble_eq_true rfl) rfl ?_
  refine wp_iload_n (i := 0) dX10_isDay_0 rfl rfl ?_
  refine wp_iflt (tgt := 14) dX10_isDay_1 (by decide) ⟨fun q => ?_, fun q => ?_⟩
  · replace h := h.1 q
    refine wp_iconst (v := nI 0) dX10_isDay_14 rfl ?_
    exact wp_zreturn dX10_isDay_15 rfl ⟨rfl, _, rfl, h⟩
  · replace h := h.2 q
    refine wp_iload_n (i := 0) dX10_isDay_4 rfl rfl ?_
    refine wp_bipush (v := nI 28) dX10_isDay_5 (by decide) ?_
    refine wp_icmpge (tgt := 14) dX10_isDay_7 (by decide) ⟨fun q => ?_, fun q => ?_⟩
    · replace h := h.1 q
      refine wp_iconst (v := nI 0) dX10_isDay_14 rfl ?_
      exact wp_zreturn dX10_isDay_15 rfl ⟨rfl, _, rfl, h⟩
    · replace h := h.2 q
      refine wp_iconst (v := nI 1) dX10_isDay_10 rfl ?_
      refine wp_goto (tgt := 15) dX10_isDay_11 (by decide) ?_
      exact wp_zreturn dX10_isDay_15 rfl ⟨rfl, _, rfl, h⟩
set_option maxRecDepth 20000 in
set_option maxHeartbeats 2000000 in
theorem vc_Md_isDay {E : KE} {S : Shp} {d : Nat} {x0 : Int32} {σ : Sg} {K : Int32 → Sg → Prop} (h : CallI E S d mX11_in [.int x0, .int (nI 0), .int (nI 27)] σ (fun y2 σ1 => (y2 = 0 ∨ y2 = 1) ∧ K y2 σ1)) : CallI E S (d + 1) mX11_isDay [.int x0] σ K := by
  refine wp_enter (Lo := [some (.int x0)]) mp_X11_isDay (Nat.le_of_ble_eq_true rfl) rfl ?_
  refine wp_iload_n (i := 0) dX11_isDay_0 rfl rfl ?_
  refine wp_iconst (v := nI 0) dX11_isDay_1 rfl ?_
  refine wp_bipush (v := nI 27) dX11_isDay_2 (by decide) ?_
  refine wp_callSI (vs := [.int x0, .int (nI 0), .int (nI 27)]) (rest := []) dX11_isDay_4 mS_X11_in lm_X11_53 rfl rfl (Nat.le_of_ble_eq_true rfl) (CallI.mono h (fun y2 σ1 h => ?_))
  exact wp_zreturn dX11_isDay_7 rfl ⟨k_bool h.1, _, rfl, h.2⟩
set_option maxRecDepth 20000 in
set_option maxHeartbeats 2000000 in
theorem vc_Text_operand {E : KE} {S : Shp} {d : Nat} {x0 : Int32} {x1 : Int32} {x2 : Int32} {x3 : Int32} {σ : Sg} {K : Int32 → Sg → Prop} (h : (x0 = nI 10000 → K x1 σ) ∧ (x0 = nI 10001 → K x2 σ) ∧ (x0 = nI 10002 → K x3 σ) ∧ (¬ x0 = nI 10000 → ¬ x0 = nI 10001 → ¬ x0 = nI 10002 → K x0 σ)) : CallI E S d mX6_operand [.int x0, .int x1, .int x2, .int x3] σ K := by
  refine wp_enter (Lo := [some (.int x0), some (.int x1), some (.int x2), some (.int x3)]) mp_X6_operand (Nat.le_of_ble_eq_true rfl) rfl ?_
  refine wp_iload_n (i := 0) dX6_operand_0 rfl rfl ?_
  rcases Classical.em (x0 = nI 10000) with q0 | q0
  · replace h := h.1 q0
    refine wp_tswIn (off := 27) (tgt := 28) dX6_operand_1 (by rw [q0]; decide) (by rw [q0]; decide) (by rw [q0]; rfl) (by decide) ?_
    refine wp_iload_n (i := 1) dX6_operand_28 rfl rfl ?_
    exact wp_ireturn dX6_operand_29 rfl ⟨_, rfl, h⟩
  rcases Classical.em (x0 = nI 10001) with q1 | q1
  · replace h := h.2.1 q1
    refine wp_tswIn (off := 29) (tgt := 30) dX6_operand_1 (by rw [q1]; decide) (by rw [q1]; decide) (by rw [q1]; rfl) (by decide) ?_
    refine wp_iload_n (i := 2) dX6_operand_30 rfl rfl ?_
    exact wp_ireturn dX6_operand_31 rfl ⟨_, rfl, h⟩
  rcases Classical.em (x0 = nI 10002) with q2 | q2
  · replace h := h.2.2.1 q2
    refine wp_tswIn (off := 31) (tgt := 32) dX6_operand_1 (by rw [q2]; decide) (by rw [q2]; decide) (by rw [q2]; rfl) (by decide) ?_
    refine wp_iload_n (i := 3) dX6_operand_32 rfl rfl ?_
    exact wp_ireturn dX6_operand_33 rfl ⟨_, rfl, h⟩
  have nq0 := lv_neT q0 (show ((nI 10000) : Int32).toInt = 10000 by decide)
  have nq1 := lv_neT q1 (show ((nI 10001) : Int32).toInt = 10001 by decide)
  have nq2 := lv_neT q2 (show ((nI 10002) : Int32).toInt = 10002 by decide)
  replace h := h.2.2.2 q0 q1 q2
  refine wp_tswOut (tgt := 34) dX6_operand_1 (by omega) (by decide) ?_
  refine wp_iload_n (i := 0) dX6_operand_34 rfl rfl ?_
  exact wp_ireturn dX6_operand_35 rfl ⟨_, rfl, h⟩
set_option maxRecDepth 20000 in
set_option maxHeartbeats 2000000 in
theorem vc_Text_joined {E : KE} {S : Shp} {d : Nat} {x0 : Int32} {x1 : Int32} {x2 : Int32} {σ : Sg} {K : Int32 → Sg → Prop} (h : (x0 = nI 37 → (¬ x2 = 0 → ¬ x2 = 0 ∧ (K (x1 - x1 / x2 * x2) σ)) ∧ (x2 = 0 → K (nI 0) σ)) ∧ (x0 = nI 38 → (x1 = 0 → K (nI 0) σ) ∧ (¬ x1 = 0 → (x2 = 0 → K (nI 0) σ) ∧ (¬ x2 = 0 → K (nI 1) σ))) ∧ (x0 = nI 42 → K (x1 * x2) σ) ∧ (x0 = nI 43 → K (x1 + x2) σ) ∧ (x0 = nI 45 → K (x1 - x2) σ) ∧ (x0 = nI 47 → (¬ x2 = 0 → ¬ x2 = 0 ∧ (K (x1 / x2) σ)) ∧ (x2 = 0 → K (nI 0) σ)) ∧ (x0 = nI 60 → (x2 ≤ x1 → K (nI 0) σ) ∧ (¬ x2 ≤ x1 → K (nI 1) σ)) ∧ (x0 = nI 61 → (¬ x1 = x2 → K (nI 0) σ) ∧ (x1 = x2 → K (nI 1) σ)) ∧ (x0 = nI 62 → (x1 ≤ x2 → K (nI 0) σ) ∧ (¬ x1 ≤ x2 → K (nI 1) σ)) ∧ (x0 = nI 124 → (¬ x1 = 0 → K (nI 1) σ) ∧ (x1 = 0 → (x2 = 0 → K (nI 0) σ) ∧ (¬ x2 = 0 → K (nI 1) σ))) ∧ (¬ x0 = nI 37 → ¬ x0 = nI 38 → ¬ x0 = nI 42 → ¬ x0 = nI 43 → ¬ x0 = nI 45 → ¬ x0 = nI 47 → ¬ x0 = nI 60 → ¬ x0 = nI 61 → ¬ x0 = nI 62 → ¬ x0 = nI 124 → K (nI 0) σ)) : CallI E S d mX6_joined [.int x0, .int x1, .int x2] σ K := by
  refine wp_enter (Lo := [some (.int x0), some (.int x1), some (.int x2)]) mp_X6_joined (Nat.le_of_ble_eq_true rfl) rfl ?_
  refine wp_iload_n (i := 0) dX6_joined_0 rfl rfl ?_
  rcases Classical.em (x0 = nI 37) with q0 | q0
  · replace h := h.1 q0
    refine wp_lsw (off := 176) (tgt := 177) dX6_joined_1 (by decide) (by rw [q0]; decide) (by decide) ?_
    refine wp_iload_n (i := 2) dX6_joined_177 rfl rfl ?_
    refine wp_ifne (tgt := 185) dX6_joined_178 (by decide) ⟨fun q => ?_, fun q => ?_⟩
    · replace h := h.1 q
      refine wp_iload_n (i := 1) dX6_joined_185 rfl rfl ?_
      refine wp_iload_n (i := 2) dX6_joined_186 rfl rfl ?_
      refine wp_irem dX6_joined_187 ⟨h.1, ?_⟩
      replace h := h.2
      exact wp_ireturn dX6_joined_188 rfl ⟨_, rfl, h⟩
    · replace h := h.2 q
      refine wp_iconst (v := nI 0) dX6_joined_181 rfl ?_
      refine wp_goto (tgt := 188) dX6_joined_182 (by decide) ?_
      exact wp_ireturn dX6_joined_188 rfl ⟨_, rfl, h⟩
  rcases Classical.em (x0 = nI 38) with q1 | q1
  · replace h := h.2.1 q1
    refine wp_lsw (off := 105) (tgt := 106) dX6_joined_1 (by decide) (by rw [q1]; decide) (by decide) ?_
    refine wp_iload_n (i := 1) dX6_joined_106 rfl rfl ?_
    refine wp_ifeq (tgt := 118) dX6_joined_107 (by decide) ⟨fun q => ?_, fun q => ?_⟩
    · replace h := h.1 q
      refine wp_iconst (v := nI 0) dX6_joined_118 rfl ?_
      exact wp_ireturn dX6_joined_119 rfl ⟨_, rfl, h⟩
    · replace h := h.2 q
      refine wp_iload_n (i := 2) dX6_joined_110 rfl rfl ?_
      refine wp_ifeq (tgt := 118) dX6_joined_111 (by decide) ⟨fun q => ?_, fun q => ?_⟩
      · replace h := h.1 q
        refine wp_iconst (v := nI 0) dX6_joined_118 rfl ?_
        exact wp_ireturn dX6_joined_119 rfl ⟨_, rfl, h⟩
      · replace h := h.2 q
        refine wp_iconst (v := nI 1) dX6_joined_114 rfl ?_
        refine wp_goto (tgt := 119) dX6_joined_115 (by decide) ?_
        exact wp_ireturn dX6_joined_119 rfl ⟨_, rfl, h⟩
  rcases Classical.em (x0 = nI 42) with q2 | q2
  · replace h := h.2.2.1 q2
    refine wp_lsw (off := 160) (tgt := 161) dX6_joined_1 (by decide) (by rw [q2]; decide) (by decide) ?_
    refine wp_iload_n (i := 1) dX6_joined_161 rfl rfl ?_
    refine wp_iload_n (i := 2) dX6_joined_162 rfl rfl ?_
    refine wp_imul dX6_joined_163 ?_
    exact wp_ireturn dX6_joined_164 rfl ⟨_, rfl, h⟩
  rcases Classical.em (x0 = nI 43) with q3 | q3
  · replace h := h.2.2.2.1 q3
    refine wp_lsw (off := 152) (tgt := 153) dX6_joined_1 (by decide) (by rw [q3]; decide) (by decide) ?_
    refine wp_iload_n (i := 1) dX6_joined_153 rfl rfl ?_
    refine wp_iload_n (i := 2) dX6_joined_154 rfl rfl ?_
    refine wp_iadd dX6_joined_155 ?_
    exact wp_ireturn dX6_joined_156 rfl ⟨_, rfl, h⟩
  rcases Classical.em (x0 = nI 45) with q4 | q4
  · replace h := h.2.2.2.2.1 q4
    refine wp_lsw (off := 156) (tgt := 157) dX6_joined_1 (by decide) (by rw [q4]; decide) (by decide) ?_
    refine wp_iload_n (i := 1) dX6_joined_157 rfl rfl ?_
    refine wp_iload_n (i := 2) dX6_joined_158 rfl rfl ?_
    refine wp_isub dX6_joined_159 ?_
    exact wp_ireturn dX6_joined_160 rfl ⟨_, rfl, h⟩
  rcases Classical.em (x0 = nI 47) with q5 | q5
  · replace h := h.2.2.2.2.2.1 q5
    refine wp_lsw (off := 164) (tgt := 165) dX6_joined_1 (by decide) (by rw [q5]; decide) (by decide) ?_
    refine wp_iload_n (i := 2) dX6_joined_165 rfl rfl ?_
    refine wp_ifne (tgt := 173) dX6_joined_166 (by decide) ⟨fun q => ?_, fun q => ?_⟩
    · replace h := h.1 q
      refine wp_iload_n (i := 1) dX6_joined_173 rfl rfl ?_
      refine wp_iload_n (i := 2) dX6_joined_174 rfl rfl ?_
      refine wp_idiv dX6_joined_175 ⟨h.1, ?_⟩
      replace h := h.2
      exact wp_ireturn dX6_joined_176 rfl ⟨_, rfl, h⟩
    · replace h := h.2 q
      refine wp_iconst (v := nI 0) dX6_joined_169 rfl ?_
      refine wp_goto (tgt := 176) dX6_joined_170 (by decide) ?_
      exact wp_ireturn dX6_joined_176 rfl ⟨_, rfl, h⟩
  rcases Classical.em (x0 = nI 60) with q6 | q6
  · replace h := h.2.2.2.2.2.2.1 q6
    refine wp_lsw (off := 119) (tgt := 120) dX6_joined_1 (by decide) (by rw [q6]; decide) (by decide) ?_
    refine wp_iload_n (i := 1) dX6_joined_120 rfl rfl ?_
    refine wp_iload_n (i := 2) dX6_joined_121 rfl rfl ?_
    refine wp_icmpge (tgt := 129) dX6_joined_122 (by decide) ⟨fun q => ?_, fun q => ?_⟩
    · replace h := h.1 q
      refine wp_iconst (v := nI 0) dX6_joined_129 rfl ?_
      exact wp_ireturn dX6_joined_130 rfl ⟨_, rfl, h⟩
    · replace h := h.2 q
      refine wp_iconst (v := nI 1) dX6_joined_125 rfl ?_
      refine wp_goto (tgt := 130) dX6_joined_126 (by decide) ?_
      exact wp_ireturn dX6_joined_130 rfl ⟨_, rfl, h⟩
  rcases Classical.em (x0 = nI 61) with q7 | q7
  · replace h := h.2.2.2.2.2.2.2.1 q7
    refine wp_lsw (off := 130) (tgt := 131) dX6_joined_1 (by decide) (by rw [q7]; decide) (by decide) ?_
    refine wp_iload_n (i := 1) dX6_joined_131 rfl rfl ?_
    refine wp_iload_n (i := 2) dX6_joined_132 rfl rfl ?_
    refine wp_icmpne (tgt := 140) dX6_joined_133 (by decide) ⟨fun q => ?_, fun q => ?_⟩
    · replace h := h.1 q
      refine wp_iconst (v := nI 0) dX6_joined_140 rfl ?_
      exact wp_ireturn dX6_joined_141 rfl ⟨_, rfl, h⟩
    · replace h := h.2 q
      refine wp_iconst (v := nI 1) dX6_joined_136 rfl ?_
      refine wp_goto (tgt := 141) dX6_joined_137 (by decide) ?_
      exact wp_ireturn dX6_joined_141 rfl ⟨_, rfl, h⟩
  rcases Classical.em (x0 = nI 62) with q8 | q8
  · replace h := h.2.2.2.2.2.2.2.2.1 q8
    refine wp_lsw (off := 141) (tgt := 142) dX6_joined_1 (by decide) (by rw [q8]; decide) (by decide) ?_
    refine wp_iload_n (i := 1) dX6_joined_142 rfl rfl ?_
    refine wp_iload_n (i := 2) dX6_joined_143 rfl rfl ?_
    refine wp_icmple (tgt := 151) dX6_joined_144 (by decide) ⟨fun q => ?_, fun q => ?_⟩
    · replace h := h.1 q
      refine wp_iconst (v := nI 0) dX6_joined_151 rfl ?_
      exact wp_ireturn dX6_joined_152 rfl ⟨_, rfl, h⟩
    · replace h := h.2 q
      refine wp_iconst (v := nI 1) dX6_joined_147 rfl ?_
      refine wp_goto (tgt := 152) dX6_joined_148 (by decide) ?_
      exact wp_ireturn dX6_joined_152 rfl ⟨_, rfl, h⟩
  rcases Classical.em (x0 = nI 124) with q9 | q9
  · replace h := h.2.2.2.2.2.2.2.2.2.1 q9
    refine wp_lsw (off := 91) (tgt := 92) dX6_joined_1 (by decide) (by rw [q9]; decide) (by decide) ?_
    refine wp_iload_n (i := 1) dX6_joined_92 rfl rfl ?_
    refine wp_ifne (tgt := 100) dX6_joined_93 (by decide) ⟨fun q => ?_, fun q => ?_⟩
    · replace h := h.1 q
      refine wp_iconst (v := nI 1) dX6_joined_100 rfl ?_
      refine wp_goto (tgt := 105) dX6_joined_101 (by decide) ?_
      exact wp_ireturn dX6_joined_105 rfl ⟨_, rfl, h⟩
    · replace h := h.2 q
      refine wp_iload_n (i := 2) dX6_joined_96 rfl rfl ?_
      refine wp_ifeq (tgt := 104) dX6_joined_97 (by decide) ⟨fun q => ?_, fun q => ?_⟩
      · replace h := h.1 q
        refine wp_iconst (v := nI 0) dX6_joined_104 rfl ?_
        exact wp_ireturn dX6_joined_105 rfl ⟨_, rfl, h⟩
      · replace h := h.2 q
        refine wp_iconst (v := nI 1) dX6_joined_100 rfl ?_
        refine wp_goto (tgt := 105) dX6_joined_101 (by decide) ?_
        exact wp_ireturn dX6_joined_105 rfl ⟨_, rfl, h⟩
  replace h := h.2.2.2.2.2.2.2.2.2.2 q0 q1 q2 q3 q4 q5 q6 q7 q8 q9
  refine wp_lsw (off := 188) (tgt := 189) dX6_joined_1 (by decide) ((lv_osw q0 (show ((nI 37) : Int32).toInt = 37 by decide)).trans ((lv_osw q1 (show ((nI 38) : Int32).toInt = 38 by decide)).trans ((lv_osw q2 (show ((nI 42) : Int32).toInt = 42 by decide)).trans ((lv_osw q3 (show ((nI 43) : Int32).toInt = 43 by decide)).trans ((lv_osw q4 (show ((nI 45) : Int32).toInt = 45 by decide)).trans ((lv_osw q5 (show ((nI 47) : Int32).toInt = 47 by decide)).trans ((lv_osw q6 (show ((nI 60) : Int32).toInt = 60 by decide)).trans ((lv_osw q7 (show ((nI 61) : Int32).toInt = 61 by decide)).trans ((lv_osw q8 (show ((nI 62) : Int32).toInt = 62 by decide)).trans ((lv_osw q9 (show ((nI 124) : Int32).toInt = 124 by decide)).trans rfl)))))))))) (by decide) ?_
  refine wp_iconst (v := nI 0) dX6_joined_189 rfl ?_
  exact wp_ireturn dX6_joined_190 rfl ⟨_, rfl, h⟩
set_option maxRecDepth 20000 in
set_option maxHeartbeats 2000000 in
theorem vc_World_held {E : KE} {S : Shp} {d : Nat} {x0 : Int32} {x1 : Int32} {σ : Sg} {K : Int32 → Sg → Prop} (h : K (if (nI 0) < (if x0 < x1 then x0 else x1) then (if x0 < x1 then x0 else x1) else (nI 0)) σ) : CallI E S d mX9_held [.int x0, .int x1] σ K := by
  refine wp_enter (Lo := [some (.int x0), some (.int x1)]) mp_X9_held (Nat.le_of_ble_eq_true rfl) rfl ?_
  refine wp_iconst (v := nI 0) dX9_held_0 rfl ?_
  refine wp_iload_n (i := 1) dX9_held_1 rfl rfl ?_
  refine wp_iload_n (i := 0) dX9_held_2 rfl rfl ?_
  refine wp_mmin dX9_held_3 (lmin lm_X9_78) (Nat.le_of_ble_eq_true rfl) ?_
  refine wp_mmax dX9_held_6 (lmax lm_X9_83) (Nat.le_of_ble_eq_true rfl) ?_
  exact wp_ireturn dX9_held_9 rfl ⟨_, rfl, h⟩
set_option maxRecDepth 20000 in
set_option maxHeartbeats 2000000 in
theorem vc_Md_held {E : KE} {S : Shp} {d : Nat} {x0 : Int32} {x1 : Int32} {x2 : Int32} {σ : Sg} {K : Int32 → Sg → Prop} (h : (x1 ≤ x0 → (x0 ≤ x2 → K x0 σ) ∧ (¬ x0 ≤ x2 → K x2 σ)) ∧ (¬ x1 ≤ x0 → K x1 σ)) : CallI E S d mX11_held [.int x0, .int x1, .int x2] σ K := by
  refine wp_enter (Lo := [some (.int x0), some (.int x1), some (.int x2)]) mp_X11_held (Nat.le_of_ble_eq_true rfl) rfl ?_
  refine wp_iload_n (i := 0) dX11_held_0 rfl rfl ?_
  refine wp_iload_n (i := 1) dX11_held_1 rfl rfl ?_
  refine wp_icmpge (tgt := 9) dX11_held_2 (by decide) ⟨fun q => ?_, fun q => ?_⟩
  · replace h := h.1 q
    refine wp_iload_n (i := 0) dX11_held_9 rfl rfl ?_
    refine wp_iload_n (i := 2) dX11_held_10 rfl rfl ?_
    refine wp_icmple (tgt := 18) dX11_held_11 (by decide) ⟨fun q => ?_, fun q => ?_⟩
    · replace h := h.1 q
      refine wp_iload_n (i := 0) dX11_held_18 rfl rfl ?_
      exact wp_ireturn dX11_held_19 rfl ⟨_, rfl, h⟩
    · replace h := h.2 q
      refine wp_iload_n (i := 2) dX11_held_14 rfl rfl ?_
      refine wp_goto (tgt := 19) dX11_held_15 (by decide) ?_
      exact wp_ireturn dX11_held_19 rfl ⟨_, rfl, h⟩
  · replace h := h.2 q
    refine wp_iload_n (i := 1) dX11_held_5 rfl rfl ?_
    refine wp_goto (tgt := 19) dX11_held_6 (by decide) ?_
    exact wp_ireturn dX11_held_19 rfl ⟨_, rfl, h⟩
set_option maxRecDepth 20000 in
set_option maxHeartbeats 2000000 in
theorem vc_Md_twoOf {E : KE} {S : Shp} {d : Nat} {x0 : Int32} {x1 : Int32} {x2 : Int32} {σ : Sg} {K : Int32 → Sg → Prop} (h : (x0 = nI 37 → (¬ x2 = 0 → ¬ x2 = 0 ∧ (K (x1 - x1 / x2 * x2) σ)) ∧ (x2 = 0 → K (nI 0) σ)) ∧ (x0 = nI 38 → (x1 = 0 → K (nI 0) σ) ∧ (¬ x1 = 0 → (x2 = 0 → K (nI 0) σ) ∧ (¬ x2 = 0 → K (nI 1) σ))) ∧ (x0 = nI 42 → K (x1 * x2) σ) ∧ (x0 = nI 43 → K (x1 + x2) σ) ∧ (x0 = nI 45 → K (x1 - x2) σ) ∧ (x0 = nI 47 → (¬ x2 = 0 → ¬ x2 = 0 ∧ (K (x1 / x2) σ)) ∧ (x2 = 0 → K (nI 0) σ)) ∧ (x0 = nI 60 → (x2 ≤ x1 → K (nI 0) σ) ∧ (¬ x2 ≤ x1 → K (nI 1) σ)) ∧ (x0 = nI 61 → (¬ x1 = x2 → K (nI 0) σ) ∧ (x1 = x2 → K (nI 1) σ)) ∧ (x0 = nI 62 → (x1 ≤ x2 → K (nI 0) σ) ∧ (¬ x1 ≤ x2 → K (nI 1) σ)) ∧ (¬ x0 = nI 37 → ¬ x0 = nI 38 → ¬ x0 = nI 42 → ¬ x0 = nI 43 → ¬ x0 = nI 45 → ¬ x0 = nI 47 → ¬ x0 = nI 60 → ¬ x0 = nI 61 → ¬ x0 = nI 62 → (¬ x1 = 0 → K (nI 1) σ) ∧ (x1 = 0 → (x2 = 0 → K (nI 0) σ) ∧ (¬ x2 = 0 → K (nI 1) σ)))) : CallI E S d mX11_twoOf [.int x0, .int x1, .int x2] σ K := by
  refine wp_enter (Lo := [some (.int x0), some (.int x1), some (.int x2)]) mp_X11_twoOf (Nat.le_of_ble_eq_true rfl) rfl ?_
  refine wp_iload_n (i := 0) dX11_twoOf_0 rfl rfl ?_
  rcases Classical.em (x0 = nI 37) with q0 | q0
  · replace h := h.1 q0
    refine wp_tswIn (off := 143) (tgt := 144) dX11_twoOf_1 (by rw [q0]; decide) (by rw [q0]; decide) (by rw [q0]; rfl) (by decide) ?_
    refine wp_iload_n (i := 2) dX11_twoOf_144 rfl rfl ?_
    refine wp_ifne (tgt := 152) dX11_twoOf_145 (by decide) ⟨fun q => ?_, fun q => ?_⟩
    · replace h := h.1 q
      refine wp_iload_n (i := 1) dX11_twoOf_152 rfl rfl ?_
      refine wp_iload_n (i := 2) dX11_twoOf_153 rfl rfl ?_
      refine wp_irem dX11_twoOf_154 ⟨h.1, ?_⟩
      replace h := h.2
      exact wp_ireturn dX11_twoOf_155 rfl ⟨_, rfl, h⟩
    · replace h := h.2 q
      refine wp_iconst (v := nI 0) dX11_twoOf_148 rfl ?_
      refine wp_goto (tgt := 155) dX11_twoOf_149 (by decide) ?_
      exact wp_ireturn dX11_twoOf_155 rfl ⟨_, rfl, h⟩
  rcases Classical.em (x0 = nI 38) with q1 | q1
  · replace h := h.2.1 q1
    refine wp_tswIn (off := 188) (tgt := 189) dX11_twoOf_1 (by rw [q1]; decide) (by rw [q1]; decide) (by rw [q1]; rfl) (by decide) ?_
    refine wp_iload_n (i := 1) dX11_twoOf_189 rfl rfl ?_
    refine wp_ifeq (tgt := 201) dX11_twoOf_190 (by decide) ⟨fun q => ?_, fun q => ?_⟩
    · replace h := h.1 q
      refine wp_iconst (v := nI 0) dX11_twoOf_201 rfl ?_
      exact wp_ireturn dX11_twoOf_202 rfl ⟨_, rfl, h⟩
    · replace h := h.2 q
      refine wp_iload_n (i := 2) dX11_twoOf_193 rfl rfl ?_
      refine wp_ifeq (tgt := 201) dX11_twoOf_194 (by decide) ⟨fun q => ?_, fun q => ?_⟩
      · replace h := h.1 q
        refine wp_iconst (v := nI 0) dX11_twoOf_201 rfl ?_
        exact wp_ireturn dX11_twoOf_202 rfl ⟨_, rfl, h⟩
      · replace h := h.2 q
        refine wp_iconst (v := nI 1) dX11_twoOf_197 rfl ?_
        refine wp_goto (tgt := 202) dX11_twoOf_198 (by decide) ?_
        exact wp_ireturn dX11_twoOf_202 rfl ⟨_, rfl, h⟩
  rcases Classical.em (x0 = nI 42) with q2 | q2
  · replace h := h.2.2.1 q2
    refine wp_tswIn (off := 127) (tgt := 128) dX11_twoOf_1 (by rw [q2]; decide) (by rw [q2]; decide) (by rw [q2]; rfl) (by decide) ?_
    refine wp_iload_n (i := 1) dX11_twoOf_128 rfl rfl ?_
    refine wp_iload_n (i := 2) dX11_twoOf_129 rfl rfl ?_
    refine wp_imul dX11_twoOf_130 ?_
    exact wp_ireturn dX11_twoOf_131 rfl ⟨_, rfl, h⟩
  rcases Classical.em (x0 = nI 43) with q3 | q3
  · replace h := h.2.2.2.1 q3
    refine wp_tswIn (off := 119) (tgt := 120) dX11_twoOf_1 (by rw [q3]; decide) (by rw [q3]; decide) (by rw [q3]; rfl) (by decide) ?_
    refine wp_iload_n (i := 1) dX11_twoOf_120 rfl rfl ?_
    refine wp_iload_n (i := 2) dX11_twoOf_121 rfl rfl ?_
    refine wp_iadd dX11_twoOf_122 ?_
    exact wp_ireturn dX11_twoOf_123 rfl ⟨_, rfl, h⟩
  rcases Classical.em (x0 = nI 45) with q4 | q4
  · replace h := h.2.2.2.2.1 q4
    refine wp_tswIn (off := 123) (tgt := 124) dX11_twoOf_1 (by rw [q4]; decide) (by rw [q4]; decide) (by rw [q4]; rfl) (by decide) ?_
    refine wp_iload_n (i := 1) dX11_twoOf_124 rfl rfl ?_
    refine wp_iload_n (i := 2) dX11_twoOf_125 rfl rfl ?_
    refine wp_isub dX11_twoOf_126 ?_
    exact wp_ireturn dX11_twoOf_127 rfl ⟨_, rfl, h⟩
  rcases Classical.em (x0 = nI 47) with q5 | q5
  · replace h := h.2.2.2.2.2.1 q5
    refine wp_tswIn (off := 131) (tgt := 132) dX11_twoOf_1 (by rw [q5]; decide) (by rw [q5]; decide) (by rw [q5]; rfl) (by decide) ?_
    refine wp_iload_n (i := 2) dX11_twoOf_132 rfl rfl ?_
    refine wp_ifne (tgt := 140) dX11_twoOf_133 (by decide) ⟨fun q => ?_, fun q => ?_⟩
    · replace h := h.1 q
      refine wp_iload_n (i := 1) dX11_twoOf_140 rfl rfl ?_
      refine wp_iload_n (i := 2) dX11_twoOf_141 rfl rfl ?_
      refine wp_idiv dX11_twoOf_142 ⟨h.1, ?_⟩
      replace h := h.2
      exact wp_ireturn dX11_twoOf_143 rfl ⟨_, rfl, h⟩
    · replace h := h.2 q
      refine wp_iconst (v := nI 0) dX11_twoOf_136 rfl ?_
      refine wp_goto (tgt := 143) dX11_twoOf_137 (by decide) ?_
      exact wp_ireturn dX11_twoOf_143 rfl ⟨_, rfl, h⟩
  rcases Classical.em (x0 = nI 60) with q6 | q6
  · replace h := h.2.2.2.2.2.2.1 q6
    refine wp_tswIn (off := 155) (tgt := 156) dX11_twoOf_1 (by rw [q6]; decide) (by rw [q6]; decide) (by rw [q6]; rfl) (by decide) ?_
    refine wp_iload_n (i := 1) dX11_twoOf_156 rfl rfl ?_
    refine wp_iload_n (i := 2) dX11_twoOf_157 rfl rfl ?_
    refine wp_icmpge (tgt := 165) dX11_twoOf_158 (by decide) ⟨fun q => ?_, fun q => ?_⟩
    · replace h := h.1 q
      refine wp_iconst (v := nI 0) dX11_twoOf_165 rfl ?_
      exact wp_ireturn dX11_twoOf_166 rfl ⟨_, rfl, h⟩
    · replace h := h.2 q
      refine wp_iconst (v := nI 1) dX11_twoOf_161 rfl ?_
      refine wp_goto (tgt := 166) dX11_twoOf_162 (by decide) ?_
      exact wp_ireturn dX11_twoOf_166 rfl ⟨_, rfl, h⟩
  rcases Classical.em (x0 = nI 61) with q7 | q7
  · replace h := h.2.2.2.2.2.2.2.1 q7
    refine wp_tswIn (off := 166) (tgt := 167) dX11_twoOf_1 (by rw [q7]; decide) (by rw [q7]; decide) (by rw [q7]; rfl) (by decide) ?_
    refine wp_iload_n (i := 1) dX11_twoOf_167 rfl rfl ?_
    refine wp_iload_n (i := 2) dX11_twoOf_168 rfl rfl ?_
    refine wp_icmpne (tgt := 176) dX11_twoOf_169 (by decide) ⟨fun q => ?_, fun q => ?_⟩
    · replace h := h.1 q
      refine wp_iconst (v := nI 0) dX11_twoOf_176 rfl ?_
      exact wp_ireturn dX11_twoOf_177 rfl ⟨_, rfl, h⟩
    · replace h := h.2 q
      refine wp_iconst (v := nI 1) dX11_twoOf_172 rfl ?_
      refine wp_goto (tgt := 177) dX11_twoOf_173 (by decide) ?_
      exact wp_ireturn dX11_twoOf_177 rfl ⟨_, rfl, h⟩
  rcases Classical.em (x0 = nI 62) with q8 | q8
  · replace h := h.2.2.2.2.2.2.2.2.1 q8
    refine wp_tswIn (off := 177) (tgt := 178) dX11_twoOf_1 (by rw [q8]; decide) (by rw [q8]; decide) (by rw [q8]; rfl) (by decide) ?_
    refine wp_iload_n (i := 1) dX11_twoOf_178 rfl rfl ?_
    refine wp_iload_n (i := 2) dX11_twoOf_179 rfl rfl ?_
    refine wp_icmple (tgt := 187) dX11_twoOf_180 (by decide) ⟨fun q => ?_, fun q => ?_⟩
    · replace h := h.1 q
      refine wp_iconst (v := nI 0) dX11_twoOf_187 rfl ?_
      exact wp_ireturn dX11_twoOf_188 rfl ⟨_, rfl, h⟩
    · replace h := h.2 q
      refine wp_iconst (v := nI 1) dX11_twoOf_183 rfl ?_
      refine wp_goto (tgt := 188) dX11_twoOf_184 (by decide) ?_
      exact wp_ireturn dX11_twoOf_188 rfl ⟨_, rfl, h⟩
  rcases Classical.em (x0 = nI 39) with q9 | q9
  · replace h := h.2.2.2.2.2.2.2.2.2 q0 q1 q2 q3 q4 q5 q6 q7 q8
    refine wp_tswIn (off := 202) (tgt := 203) dX11_twoOf_1 (by rw [q9]; decide) (by rw [q9]; decide) (by rw [q9]; rfl) (by decide) ?_
    refine wp_iload_n (i := 1) dX11_twoOf_203 rfl rfl ?_
    refine wp_ifne (tgt := 211) dX11_twoOf_204 (by decide) ⟨fun q => ?_, fun q => ?_⟩
    · replace h := h.1 q
      refine wp_iconst (v := nI 1) dX11_twoOf_211 rfl ?_
      refine wp_goto (tgt := 216) dX11_twoOf_212 (by decide) ?_
      exact wp_ireturn dX11_twoOf_216 rfl ⟨_, rfl, h⟩
    · replace h := h.2 q
      refine wp_iload_n (i := 2) dX11_twoOf_207 rfl rfl ?_
      refine wp_ifeq (tgt := 215) dX11_twoOf_208 (by decide) ⟨fun q => ?_, fun q => ?_⟩
      · replace h := h.1 q
        refine wp_iconst (v := nI 0) dX11_twoOf_215 rfl ?_
        exact wp_ireturn dX11_twoOf_216 rfl ⟨_, rfl, h⟩
      · replace h := h.2 q
        refine wp_iconst (v := nI 1) dX11_twoOf_211 rfl ?_
        refine wp_goto (tgt := 216) dX11_twoOf_212 (by decide) ?_
        exact wp_ireturn dX11_twoOf_216 rfl ⟨_, rfl, h⟩
  rcases Classical.em (x0 = nI 40) with q10 | q10
  · replace h := h.2.2.2.2.2.2.2.2.2 q0 q1 q2 q3 q4 q5 q6 q7 q8
    refine wp_tswIn (off := 202) (tgt := 203) dX11_twoOf_1 (by rw [q10]; decide) (by rw [q10]; decide) (by rw [q10]; rfl) (by decide) ?_
    refine wp_iload_n (i := 1) dX11_twoOf_203 rfl rfl ?_
    refine wp_ifne (tgt := 211) dX11_twoOf_204 (by decide) ⟨fun q => ?_, fun q => ?_⟩
    · replace h := h.1 q
      refine wp_iconst (v := nI 1) dX11_twoOf_211 rfl ?_
      refine wp_goto (tgt := 216) dX11_twoOf_212 (by decide) ?_
      exact wp_ireturn dX11_twoOf_216 rfl ⟨_, rfl, h⟩
    · replace h := h.2 q
      refine wp_iload_n (i := 2) dX11_twoOf_207 rfl rfl ?_
      refine wp_ifeq (tgt := 215) dX11_twoOf_208 (by decide) ⟨fun q => ?_, fun q => ?_⟩
      · replace h := h.1 q
        refine wp_iconst (v := nI 0) dX11_twoOf_215 rfl ?_
        exact wp_ireturn dX11_twoOf_216 rfl ⟨_, rfl, h⟩
      · replace h := h.2 q
        refine wp_iconst (v := nI 1) dX11_twoOf_211 rfl ?_
        refine wp_goto (tgt := 216) dX11_twoOf_212 (by decide) ?_
        exact wp_ireturn dX11_twoOf_216 rfl ⟨_, rfl, h⟩
  rcases Classical.em (x0 = nI 41) with q11 | q11
  · replace h := h.2.2.2.2.2.2.2.2.2 q0 q1 q2 q3 q4 q5 q6 q7 q8
    refine wp_tswIn (off := 202) (tgt := 203) dX11_twoOf_1 (by rw [q11]; decide) (by rw [q11]; decide) (by rw [q11]; rfl) (by decide) ?_
    refine wp_iload_n (i := 1) dX11_twoOf_203 rfl rfl ?_
    refine wp_ifne (tgt := 211) dX11_twoOf_204 (by decide) ⟨fun q => ?_, fun q => ?_⟩
    · replace h := h.1 q
      refine wp_iconst (v := nI 1) dX11_twoOf_211 rfl ?_
      refine wp_goto (tgt := 216) dX11_twoOf_212 (by decide) ?_
      exact wp_ireturn dX11_twoOf_216 rfl ⟨_, rfl, h⟩
    · replace h := h.2 q
      refine wp_iload_n (i := 2) dX11_twoOf_207 rfl rfl ?_
      refine wp_ifeq (tgt := 215) dX11_twoOf_208 (by decide) ⟨fun q => ?_, fun q => ?_⟩
      · replace h := h.1 q
        refine wp_iconst (v := nI 0) dX11_twoOf_215 rfl ?_
        exact wp_ireturn dX11_twoOf_216 rfl ⟨_, rfl, h⟩
      · replace h := h.2 q
        refine wp_iconst (v := nI 1) dX11_twoOf_211 rfl ?_
        refine wp_goto (tgt := 216) dX11_twoOf_212 (by decide) ?_
        exact wp_ireturn dX11_twoOf_216 rfl ⟨_, rfl, h⟩
  rcases Classical.em (x0 = nI 44) with q12 | q12
  · replace h := h.2.2.2.2.2.2.2.2.2 q0 q1 q2 q3 q4 q5 q6 q7 q8
    refine wp_tswIn (off := 202) (tgt := 203) dX11_twoOf_1 (by rw [q12]; decide) (by rw [q12]; decide) (by rw [q12]; rfl) (by decide) ?_
    refine wp_iload_n (i := 1) dX11_twoOf_203 rfl rfl ?_
    refine wp_ifne (tgt := 211) dX11_twoOf_204 (by decide) ⟨fun q => ?_, fun q => ?_⟩
    · replace h := h.1 q
      refine wp_iconst (v := nI 1) dX11_twoOf_211 rfl ?_
      refine wp_goto (tgt := 216) dX11_twoOf_212 (by decide) ?_
      exact wp_ireturn dX11_twoOf_216 rfl ⟨_, rfl, h⟩
    · replace h := h.2 q
      refine wp_iload_n (i := 2) dX11_twoOf_207 rfl rfl ?_
      refine wp_ifeq (tgt := 215) dX11_twoOf_208 (by decide) ⟨fun q => ?_, fun q => ?_⟩
      · replace h := h.1 q
        refine wp_iconst (v := nI 0) dX11_twoOf_215 rfl ?_
        exact wp_ireturn dX11_twoOf_216 rfl ⟨_, rfl, h⟩
      · replace h := h.2 q
        refine wp_iconst (v := nI 1) dX11_twoOf_211 rfl ?_
        refine wp_goto (tgt := 216) dX11_twoOf_212 (by decide) ?_
        exact wp_ireturn dX11_twoOf_216 rfl ⟨_, rfl, h⟩
  rcases Classical.em (x0 = nI 46) with q13 | q13
  · replace h := h.2.2.2.2.2.2.2.2.2 q0 q1 q2 q3 q4 q5 q6 q7 q8
    refine wp_tswIn (off := 202) (tgt := 203) dX11_twoOf_1 (by rw [q13]; decide) (by rw [q13]; decide) (by rw [q13]; rfl) (by decide) ?_
    refine wp_iload_n (i := 1) dX11_twoOf_203 rfl rfl ?_
    refine wp_ifne (tgt := 211) dX11_twoOf_204 (by decide) ⟨fun q => ?_, fun q => ?_⟩
    · replace h := h.1 q
      refine wp_iconst (v := nI 1) dX11_twoOf_211 rfl ?_
      refine wp_goto (tgt := 216) dX11_twoOf_212 (by decide) ?_
      exact wp_ireturn dX11_twoOf_216 rfl ⟨_, rfl, h⟩
    · replace h := h.2 q
      refine wp_iload_n (i := 2) dX11_twoOf_207 rfl rfl ?_
      refine wp_ifeq (tgt := 215) dX11_twoOf_208 (by decide) ⟨fun q => ?_, fun q => ?_⟩
      · replace h := h.1 q
        refine wp_iconst (v := nI 0) dX11_twoOf_215 rfl ?_
        exact wp_ireturn dX11_twoOf_216 rfl ⟨_, rfl, h⟩
      · replace h := h.2 q
        refine wp_iconst (v := nI 1) dX11_twoOf_211 rfl ?_
        refine wp_goto (tgt := 216) dX11_twoOf_212 (by decide) ?_
        exact wp_ireturn dX11_twoOf_216 rfl ⟨_, rfl, h⟩
  rcases Classical.em (x0 = nI 48) with q14 | q14
  · replace h := h.2.2.2.2.2.2.2.2.2 q0 q1 q2 q3 q4 q5 q6 q7 q8
    refine wp_tswIn (off := 202) (tgt := 203) dX11_twoOf_1 (by rw [q14]; decide) (by rw [q14]; decide) (by rw [q14]; rfl) (by decide) ?_
    refine wp_iload_n (i := 1) dX11_twoOf_203 rfl rfl ?_
    refine wp_ifne (tgt := 211) dX11_twoOf_204 (by decide) ⟨fun q => ?_, fun q => ?_⟩
    · replace h := h.1 q
      refine wp_iconst (v := nI 1) dX11_twoOf_211 rfl ?_
      refine wp_goto (tgt := 216) dX11_twoOf_212 (by decide) ?_
      exact wp_ireturn dX11_twoOf_216 rfl ⟨_, rfl, h⟩
    · replace h := h.2 q
      refine wp_iload_n (i := 2) dX11_twoOf_207 rfl rfl ?_
      refine wp_ifeq (tgt := 215) dX11_twoOf_208 (by decide) ⟨fun q => ?_, fun q => ?_⟩
      · replace h := h.1 q
        refine wp_iconst (v := nI 0) dX11_twoOf_215 rfl ?_
        exact wp_ireturn dX11_twoOf_216 rfl ⟨_, rfl, h⟩
      · replace h := h.2 q
        refine wp_iconst (v := nI 1) dX11_twoOf_211 rfl ?_
        refine wp_goto (tgt := 216) dX11_twoOf_212 (by decide) ?_
        exact wp_ireturn dX11_twoOf_216 rfl ⟨_, rfl, h⟩
  rcases Classical.em (x0 = nI 49) with q15 | q15
  · replace h := h.2.2.2.2.2.2.2.2.2 q0 q1 q2 q3 q4 q5 q6 q7 q8
    refine wp_tswIn (off := 202) (tgt := 203) dX11_twoOf_1 (by rw [q15]; decide) (by rw [q15]; decide) (by rw [q15]; rfl) (by decide) ?_
    refine wp_iload_n (i := 1) dX11_twoOf_203 rfl rfl ?_
    refine wp_ifne (tgt := 211) dX11_twoOf_204 (by decide) ⟨fun q => ?_, fun q => ?_⟩
    · replace h := h.1 q
      refine wp_iconst (v := nI 1) dX11_twoOf_211 rfl ?_
      refine wp_goto (tgt := 216) dX11_twoOf_212 (by decide) ?_
      exact wp_ireturn dX11_twoOf_216 rfl ⟨_, rfl, h⟩
    · replace h := h.2 q
      refine wp_iload_n (i := 2) dX11_twoOf_207 rfl rfl ?_
      refine wp_ifeq (tgt := 215) dX11_twoOf_208 (by decide) ⟨fun q => ?_, fun q => ?_⟩
      · replace h := h.1 q
        refine wp_iconst (v := nI 0) dX11_twoOf_215 rfl ?_
        exact wp_ireturn dX11_twoOf_216 rfl ⟨_, rfl, h⟩
      · replace h := h.2 q
        refine wp_iconst (v := nI 1) dX11_twoOf_211 rfl ?_
        refine wp_goto (tgt := 216) dX11_twoOf_212 (by decide) ?_
        exact wp_ireturn dX11_twoOf_216 rfl ⟨_, rfl, h⟩
  rcases Classical.em (x0 = nI 50) with q16 | q16
  · replace h := h.2.2.2.2.2.2.2.2.2 q0 q1 q2 q3 q4 q5 q6 q7 q8
    refine wp_tswIn (off := 202) (tgt := 203) dX11_twoOf_1 (by rw [q16]; decide) (by rw [q16]; decide) (by rw [q16]; rfl) (by decide) ?_
    refine wp_iload_n (i := 1) dX11_twoOf_203 rfl rfl ?_
    refine wp_ifne (tgt := 211) dX11_twoOf_204 (by decide) ⟨fun q => ?_, fun q => ?_⟩
    · replace h := h.1 q
      refine wp_iconst (v := nI 1) dX11_twoOf_211 rfl ?_
      refine wp_goto (tgt := 216) dX11_twoOf_212 (by decide) ?_
      exact wp_ireturn dX11_twoOf_216 rfl ⟨_, rfl, h⟩
    · replace h := h.2 q
      refine wp_iload_n (i := 2) dX11_twoOf_207 rfl rfl ?_
      refine wp_ifeq (tgt := 215) dX11_twoOf_208 (by decide) ⟨fun q => ?_, fun q => ?_⟩
      · replace h := h.1 q
        refine wp_iconst (v := nI 0) dX11_twoOf_215 rfl ?_
        exact wp_ireturn dX11_twoOf_216 rfl ⟨_, rfl, h⟩
      · replace h := h.2 q
        refine wp_iconst (v := nI 1) dX11_twoOf_211 rfl ?_
        refine wp_goto (tgt := 216) dX11_twoOf_212 (by decide) ?_
        exact wp_ireturn dX11_twoOf_216 rfl ⟨_, rfl, h⟩
  rcases Classical.em (x0 = nI 51) with q17 | q17
  · replace h := h.2.2.2.2.2.2.2.2.2 q0 q1 q2 q3 q4 q5 q6 q7 q8
    refine wp_tswIn (off := 202) (tgt := 203) dX11_twoOf_1 (by rw [q17]; decide) (by rw [q17]; decide) (by rw [q17]; rfl) (by decide) ?_
    refine wp_iload_n (i := 1) dX11_twoOf_203 rfl rfl ?_
    refine wp_ifne (tgt := 211) dX11_twoOf_204 (by decide) ⟨fun q => ?_, fun q => ?_⟩
    · replace h := h.1 q
      refine wp_iconst (v := nI 1) dX11_twoOf_211 rfl ?_
      refine wp_goto (tgt := 216) dX11_twoOf_212 (by decide) ?_
      exact wp_ireturn dX11_twoOf_216 rfl ⟨_, rfl, h⟩
    · replace h := h.2 q
      refine wp_iload_n (i := 2) dX11_twoOf_207 rfl rfl ?_
      refine wp_ifeq (tgt := 215) dX11_twoOf_208 (by decide) ⟨fun q => ?_, fun q => ?_⟩
      · replace h := h.1 q
        refine wp_iconst (v := nI 0) dX11_twoOf_215 rfl ?_
        exact wp_ireturn dX11_twoOf_216 rfl ⟨_, rfl, h⟩
      · replace h := h.2 q
        refine wp_iconst (v := nI 1) dX11_twoOf_211 rfl ?_
        refine wp_goto (tgt := 216) dX11_twoOf_212 (by decide) ?_
        exact wp_ireturn dX11_twoOf_216 rfl ⟨_, rfl, h⟩
  rcases Classical.em (x0 = nI 52) with q18 | q18
  · replace h := h.2.2.2.2.2.2.2.2.2 q0 q1 q2 q3 q4 q5 q6 q7 q8
    refine wp_tswIn (off := 202) (tgt := 203) dX11_twoOf_1 (by rw [q18]; decide) (by rw [q18]; decide) (by rw [q18]; rfl) (by decide) ?_
    refine wp_iload_n (i := 1) dX11_twoOf_203 rfl rfl ?_
    refine wp_ifne (tgt := 211) dX11_twoOf_204 (by decide) ⟨fun q => ?_, fun q => ?_⟩
    · replace h := h.1 q
      refine wp_iconst (v := nI 1) dX11_twoOf_211 rfl ?_
      refine wp_goto (tgt := 216) dX11_twoOf_212 (by decide) ?_
      exact wp_ireturn dX11_twoOf_216 rfl ⟨_, rfl, h⟩
    · replace h := h.2 q
      refine wp_iload_n (i := 2) dX11_twoOf_207 rfl rfl ?_
      refine wp_ifeq (tgt := 215) dX11_twoOf_208 (by decide) ⟨fun q => ?_, fun q => ?_⟩
      · replace h := h.1 q
        refine wp_iconst (v := nI 0) dX11_twoOf_215 rfl ?_
        exact wp_ireturn dX11_twoOf_216 rfl ⟨_, rfl, h⟩
      · replace h := h.2 q
        refine wp_iconst (v := nI 1) dX11_twoOf_211 rfl ?_
        refine wp_goto (tgt := 216) dX11_twoOf_212 (by decide) ?_
        exact wp_ireturn dX11_twoOf_216 rfl ⟨_, rfl, h⟩
  rcases Classical.em (x0 = nI 53) with q19 | q19
  · replace h := h.2.2.2.2.2.2.2.2.2 q0 q1 q2 q3 q4 q5 q6 q7 q8
    refine wp_tswIn (off := 202) (tgt := 203) dX11_twoOf_1 (by rw [q19]; decide) (by rw [q19]; decide) (by rw [q19]; rfl) (by decide) ?_
    refine wp_iload_n (i := 1) dX11_twoOf_203 rfl rfl ?_
    refine wp_ifne (tgt := 211) dX11_twoOf_204 (by decide) ⟨fun q => ?_, fun q => ?_⟩
    · replace h := h.1 q
      refine wp_iconst (v := nI 1) dX11_twoOf_211 rfl ?_
      refine wp_goto (tgt := 216) dX11_twoOf_212 (by decide) ?_
      exact wp_ireturn dX11_twoOf_216 rfl ⟨_, rfl, h⟩
    · replace h := h.2 q
      refine wp_iload_n (i := 2) dX11_twoOf_207 rfl rfl ?_
      refine wp_ifeq (tgt := 215) dX11_twoOf_208 (by decide) ⟨fun q => ?_, fun q => ?_⟩
      · replace h := h.1 q
        refine wp_iconst (v := nI 0) dX11_twoOf_215 rfl ?_
        exact wp_ireturn dX11_twoOf_216 rfl ⟨_, rfl, h⟩
      · replace h := h.2 q
        refine wp_iconst (v := nI 1) dX11_twoOf_211 rfl ?_
        refine wp_goto (tgt := 216) dX11_twoOf_212 (by decide) ?_
        exact wp_ireturn dX11_twoOf_216 rfl ⟨_, rfl, h⟩
  rcases Classical.em (x0 = nI 54) with q20 | q20
  · replace h := h.2.2.2.2.2.2.2.2.2 q0 q1 q2 q3 q4 q5 q6 q7 q8
    refine wp_tswIn (off := 202) (tgt := 203) dX11_twoOf_1 (by rw [q20]; decide) (by rw [q20]; decide) (by rw [q20]; rfl) (by decide) ?_
    refine wp_iload_n (i := 1) dX11_twoOf_203 rfl rfl ?_
    refine wp_ifne (tgt := 211) dX11_twoOf_204 (by decide) ⟨fun q => ?_, fun q => ?_⟩
    · replace h := h.1 q
      refine wp_iconst (v := nI 1) dX11_twoOf_211 rfl ?_
      refine wp_goto (tgt := 216) dX11_twoOf_212 (by decide) ?_
      exact wp_ireturn dX11_twoOf_216 rfl ⟨_, rfl, h⟩
    · replace h := h.2 q
      refine wp_iload_n (i := 2) dX11_twoOf_207 rfl rfl ?_
      refine wp_ifeq (tgt := 215) dX11_twoOf_208 (by decide) ⟨fun q => ?_, fun q => ?_⟩
      · replace h := h.1 q
        refine wp_iconst (v := nI 0) dX11_twoOf_215 rfl ?_
        exact wp_ireturn dX11_twoOf_216 rfl ⟨_, rfl, h⟩
      · replace h := h.2 q
        refine wp_iconst (v := nI 1) dX11_twoOf_211 rfl ?_
        refine wp_goto (tgt := 216) dX11_twoOf_212 (by decide) ?_
        exact wp_ireturn dX11_twoOf_216 rfl ⟨_, rfl, h⟩
  rcases Classical.em (x0 = nI 55) with q21 | q21
  · replace h := h.2.2.2.2.2.2.2.2.2 q0 q1 q2 q3 q4 q5 q6 q7 q8
    refine wp_tswIn (off := 202) (tgt := 203) dX11_twoOf_1 (by rw [q21]; decide) (by rw [q21]; decide) (by rw [q21]; rfl) (by decide) ?_
    refine wp_iload_n (i := 1) dX11_twoOf_203 rfl rfl ?_
    refine wp_ifne (tgt := 211) dX11_twoOf_204 (by decide) ⟨fun q => ?_, fun q => ?_⟩
    · replace h := h.1 q
      refine wp_iconst (v := nI 1) dX11_twoOf_211 rfl ?_
      refine wp_goto (tgt := 216) dX11_twoOf_212 (by decide) ?_
      exact wp_ireturn dX11_twoOf_216 rfl ⟨_, rfl, h⟩
    · replace h := h.2 q
      refine wp_iload_n (i := 2) dX11_twoOf_207 rfl rfl ?_
      refine wp_ifeq (tgt := 215) dX11_twoOf_208 (by decide) ⟨fun q => ?_, fun q => ?_⟩
      · replace h := h.1 q
        refine wp_iconst (v := nI 0) dX11_twoOf_215 rfl ?_
        exact wp_ireturn dX11_twoOf_216 rfl ⟨_, rfl, h⟩
      · replace h := h.2 q
        refine wp_iconst (v := nI 1) dX11_twoOf_211 rfl ?_
        refine wp_goto (tgt := 216) dX11_twoOf_212 (by decide) ?_
        exact wp_ireturn dX11_twoOf_216 rfl ⟨_, rfl, h⟩
  rcases Classical.em (x0 = nI 56) with q22 | q22
  · replace h := h.2.2.2.2.2.2.2.2.2 q0 q1 q2 q3 q4 q5 q6 q7 q8
    refine wp_tswIn (off := 202) (tgt := 203) dX11_twoOf_1 (by rw [q22]; decide) (by rw [q22]; decide) (by rw [q22]; rfl) (by decide) ?_
    refine wp_iload_n (i := 1) dX11_twoOf_203 rfl rfl ?_
    refine wp_ifne (tgt := 211) dX11_twoOf_204 (by decide) ⟨fun q => ?_, fun q => ?_⟩
    · replace h := h.1 q
      refine wp_iconst (v := nI 1) dX11_twoOf_211 rfl ?_
      refine wp_goto (tgt := 216) dX11_twoOf_212 (by decide) ?_
      exact wp_ireturn dX11_twoOf_216 rfl ⟨_, rfl, h⟩
    · replace h := h.2 q
      refine wp_iload_n (i := 2) dX11_twoOf_207 rfl rfl ?_
      refine wp_ifeq (tgt := 215) dX11_twoOf_208 (by decide) ⟨fun q => ?_, fun q => ?_⟩
      · replace h := h.1 q
        refine wp_iconst (v := nI 0) dX11_twoOf_215 rfl ?_
        exact wp_ireturn dX11_twoOf_216 rfl ⟨_, rfl, h⟩
      · replace h := h.2 q
        refine wp_iconst (v := nI 1) dX11_twoOf_211 rfl ?_
        refine wp_goto (tgt := 216) dX11_twoOf_212 (by decide) ?_
        exact wp_ireturn dX11_twoOf_216 rfl ⟨_, rfl, h⟩
  rcases Classical.em (x0 = nI 57) with q23 | q23
  · replace h := h.2.2.2.2.2.2.2.2.2 q0 q1 q2 q3 q4 q5 q6 q7 q8
    refine wp_tswIn (off := 202) (tgt := 203) dX11_twoOf_1 (by rw [q23]; decide) (by rw [q23]; decide) (by rw [q23]; rfl) (by decide) ?_
    refine wp_iload_n (i := 1) dX11_twoOf_203 rfl rfl ?_
    refine wp_ifne (tgt := 211) dX11_twoOf_204 (by decide) ⟨fun q => ?_, fun q => ?_⟩
    · replace h := h.1 q
      refine wp_iconst (v := nI 1) dX11_twoOf_211 rfl ?_
      refine wp_goto (tgt := 216) dX11_twoOf_212 (by decide) ?_
      exact wp_ireturn dX11_twoOf_216 rfl ⟨_, rfl, h⟩
    · replace h := h.2 q
      refine wp_iload_n (i := 2) dX11_twoOf_207 rfl rfl ?_
      refine wp_ifeq (tgt := 215) dX11_twoOf_208 (by decide) ⟨fun q => ?_, fun q => ?_⟩
      · replace h := h.1 q
        refine wp_iconst (v := nI 0) dX11_twoOf_215 rfl ?_
        exact wp_ireturn dX11_twoOf_216 rfl ⟨_, rfl, h⟩
      · replace h := h.2 q
        refine wp_iconst (v := nI 1) dX11_twoOf_211 rfl ?_
        refine wp_goto (tgt := 216) dX11_twoOf_212 (by decide) ?_
        exact wp_ireturn dX11_twoOf_216 rfl ⟨_, rfl, h⟩
  rcases Classical.em (x0 = nI 58) with q24 | q24
  · replace h := h.2.2.2.2.2.2.2.2.2 q0 q1 q2 q3 q4 q5 q6 q7 q8
    refine wp_tswIn (off := 202) (tgt := 203) dX11_twoOf_1 (by rw [q24]; decide) (by rw [q24]; decide) (by rw [q24]; rfl) (by decide) ?_
    refine wp_iload_n (i := 1) dX11_twoOf_203 rfl rfl ?_
    refine wp_ifne (tgt := 211) dX11_twoOf_204 (by decide) ⟨fun q => ?_, fun q => ?_⟩
    · replace h := h.1 q
      refine wp_iconst (v := nI 1) dX11_twoOf_211 rfl ?_
      refine wp_goto (tgt := 216) dX11_twoOf_212 (by decide) ?_
      exact wp_ireturn dX11_twoOf_216 rfl ⟨_, rfl, h⟩
    · replace h := h.2 q
      refine wp_iload_n (i := 2) dX11_twoOf_207 rfl rfl ?_
      refine wp_ifeq (tgt := 215) dX11_twoOf_208 (by decide) ⟨fun q => ?_, fun q => ?_⟩
      · replace h := h.1 q
        refine wp_iconst (v := nI 0) dX11_twoOf_215 rfl ?_
        exact wp_ireturn dX11_twoOf_216 rfl ⟨_, rfl, h⟩
      · replace h := h.2 q
        refine wp_iconst (v := nI 1) dX11_twoOf_211 rfl ?_
        refine wp_goto (tgt := 216) dX11_twoOf_212 (by decide) ?_
        exact wp_ireturn dX11_twoOf_216 rfl ⟨_, rfl, h⟩
  rcases Classical.em (x0 = nI 59) with q25 | q25
  · replace h := h.2.2.2.2.2.2.2.2.2 q0 q1 q2 q3 q4 q5 q6 q7 q8
    refine wp_tswIn (off := 202) (tgt := 203) dX11_twoOf_1 (by rw [q25]; decide) (by rw [q25]; decide) (by rw [q25]; rfl) (by decide) ?_
    refine wp_iload_n (i := 1) dX11_twoOf_203 rfl rfl ?_
    refine wp_ifne (tgt := 211) dX11_twoOf_204 (by decide) ⟨fun q => ?_, fun q => ?_⟩
    · replace h := h.1 q
      refine wp_iconst (v := nI 1) dX11_twoOf_211 rfl ?_
      refine wp_goto (tgt := 216) dX11_twoOf_212 (by decide) ?_
      exact wp_ireturn dX11_twoOf_216 rfl ⟨_, rfl, h⟩
    · replace h := h.2 q
      refine wp_iload_n (i := 2) dX11_twoOf_207 rfl rfl ?_
      refine wp_ifeq (tgt := 215) dX11_twoOf_208 (by decide) ⟨fun q => ?_, fun q => ?_⟩
      · replace h := h.1 q
        refine wp_iconst (v := nI 0) dX11_twoOf_215 rfl ?_
        exact wp_ireturn dX11_twoOf_216 rfl ⟨_, rfl, h⟩
      · replace h := h.2 q
        refine wp_iconst (v := nI 1) dX11_twoOf_211 rfl ?_
        refine wp_goto (tgt := 216) dX11_twoOf_212 (by decide) ?_
        exact wp_ireturn dX11_twoOf_216 rfl ⟨_, rfl, h⟩
  have nq0 := lv_neT q0 (show ((nI 37) : Int32).toInt = 37 by decide)
  have nq1 := lv_neT q1 (show ((nI 38) : Int32).toInt = 38 by decide)
  have nq2 := lv_neT q2 (show ((nI 42) : Int32).toInt = 42 by decide)
  have nq3 := lv_neT q3 (show ((nI 43) : Int32).toInt = 43 by decide)
  have nq4 := lv_neT q4 (show ((nI 45) : Int32).toInt = 45 by decide)
  have nq5 := lv_neT q5 (show ((nI 47) : Int32).toInt = 47 by decide)
  have nq6 := lv_neT q6 (show ((nI 60) : Int32).toInt = 60 by decide)
  have nq7 := lv_neT q7 (show ((nI 61) : Int32).toInt = 61 by decide)
  have nq8 := lv_neT q8 (show ((nI 62) : Int32).toInt = 62 by decide)
  have nq9 := lv_neT q9 (show ((nI 39) : Int32).toInt = 39 by decide)
  have nq10 := lv_neT q10 (show ((nI 40) : Int32).toInt = 40 by decide)
  have nq11 := lv_neT q11 (show ((nI 41) : Int32).toInt = 41 by decide)
  have nq12 := lv_neT q12 (show ((nI 44) : Int32).toInt = 44 by decide)
  have nq13 := lv_neT q13 (show ((nI 46) : Int32).toInt = 46 by decide)
  have nq14 := lv_neT q14 (show ((nI 48) : Int32).toInt = 48 by decide)
  have nq15 := lv_neT q15 (show ((nI 49) : Int32).toInt = 49 by decide)
  have nq16 := lv_neT q16 (show ((nI 50) : Int32).toInt = 50 by decide)
  have nq17 := lv_neT q17 (show ((nI 51) : Int32).toInt = 51 by decide)
  have nq18 := lv_neT q18 (show ((nI 52) : Int32).toInt = 52 by decide)
  have nq19 := lv_neT q19 (show ((nI 53) : Int32).toInt = 53 by decide)
  have nq20 := lv_neT q20 (show ((nI 54) : Int32).toInt = 54 by decide)
  have nq21 := lv_neT q21 (show ((nI 55) : Int32).toInt = 55 by decide)
  have nq22 := lv_neT q22 (show ((nI 56) : Int32).toInt = 56 by decide)
  have nq23 := lv_neT q23 (show ((nI 57) : Int32).toInt = 57 by decide)
  have nq24 := lv_neT q24 (show ((nI 58) : Int32).toInt = 58 by decide)
  have nq25 := lv_neT q25 (show ((nI 59) : Int32).toInt = 59 by decide)
  replace h := h.2.2.2.2.2.2.2.2.2 q0 q1 q2 q3 q4 q5 q6 q7 q8
  refine wp_tswOut (tgt := 203) dX11_twoOf_1 (by omega) (by decide) ?_
  refine wp_iload_n (i := 1) dX11_twoOf_203 rfl rfl ?_
  refine wp_ifne (tgt := 211) dX11_twoOf_204 (by decide) ⟨fun q => ?_, fun q => ?_⟩
  · replace h := h.1 q
    refine wp_iconst (v := nI 1) dX11_twoOf_211 rfl ?_
    refine wp_goto (tgt := 216) dX11_twoOf_212 (by decide) ?_
    exact wp_ireturn dX11_twoOf_216 rfl ⟨_, rfl, h⟩
  · replace h := h.2 q
    refine wp_iload_n (i := 2) dX11_twoOf_207 rfl rfl ?_
    refine wp_ifeq (tgt := 215) dX11_twoOf_208 (by decide) ⟨fun q => ?_, fun q => ?_⟩
    · replace h := h.1 q
      refine wp_iconst (v := nI 0) dX11_twoOf_215 rfl ?_
      exact wp_ireturn dX11_twoOf_216 rfl ⟨_, rfl, h⟩
    · replace h := h.2 q
      refine wp_iconst (v := nI 1) dX11_twoOf_211 rfl ?_
      refine wp_goto (tgt := 216) dX11_twoOf_212 (by decide) ?_
      exact wp_ireturn dX11_twoOf_216 rfl ⟨_, rfl, h⟩
set_option maxRecDepth 20000 in
set_option maxHeartbeats 2000000 in
theorem vc_SD_isUse {E : KE} {S : Shp} {d : Nat} {x0 : Int32} {σ : Sg} {K : Int32 → Sg → Prop} (h : (x0 = 0 → K (nI 1) σ) ∧ (¬ x0 = 0 → (¬ x0 = (nI 1) → K (nI 0) σ) ∧ (x0 = (nI 1) → K (nI 1) σ))) : CallI E S d mX10_isUse [.int x0] σ K := by
  refine wp_enter (Lo := [some (.int x0)]) mp_X10_isUse (Nat.le_of_ble_eq_true rfl) rfl ?_
  refine wp_iload_n (i := 0) dX10_isUse_0 rfl rfl ?_
  refine wp_ifeq (tgt := 9) dX10_isUse_1 (by decide) ⟨fun q => ?_, fun q => ?_⟩
  · replace h := h.1 q
    refine wp_iconst (v := nI 1) dX10_isUse_9 rfl ?_
    refine wp_goto (tgt := 14) dX10_isUse_10 (by decide) ?_
    exact wp_zreturn dX10_isUse_14 rfl ⟨rfl, _, rfl, h⟩
  · replace h := h.2 q
    refine wp_iload_n (i := 0) dX10_isUse_4 rfl rfl ?_
    refine wp_iconst (v := nI 1) dX10_isUse_5 rfl ?_
    refine wp_icmpne (tgt := 13) dX10_isUse_6 (by decide) ⟨fun q => ?_, fun q => ?_⟩
    · replace h := h.1 q
      refine wp_iconst (v := nI 0) dX10_isUse_13 rfl ?_
      exact wp_zreturn dX10_isUse_14 rfl ⟨rfl, _, rfl, h⟩
    · replace h := h.2 q
      refine wp_iconst (v := nI 1) dX10_isUse_9 rfl ?_
      refine wp_goto (tgt := 14) dX10_isUse_10 (by decide) ?_
      exact wp_zreturn dX10_isUse_14 rfl ⟨rfl, _, rfl, h⟩
set_option maxRecDepth 20000 in
set_option maxHeartbeats 2000000 in
theorem vc_Reader_isDigit {E : KE} {S : Shp} {d : Nat} {x0 : Int32} {σ : Sg} {K : Int32 → Sg → Prop} (h : (x0 < (nI 48) → K (nI 0) σ) ∧ (¬ x0 < (nI 48) → ((nI 57) < x0 → K (nI 0) σ) ∧ (¬ (nI 57) < x0 → K (nI 1) σ))) : CallI E S d mX3_isDigit [.int x0] σ K := by
  refine wp_enter (Lo := [some (.int x0)]) mp_X3_isDigit (Nat.le_of_ble_eq_true rfl) rfl ?_
  refine wp_iload_n (i := 0) dX3_isDigit_0 rfl rfl ?_
  refine wp_bipush (v := nI 48) dX3_isDigit_1 (by decide) ?_
  refine wp_icmplt (tgt := 16) dX3_isDigit_3 (by decide) ⟨fun q => ?_, fun q => ?_⟩
  · replace h := h.1 q
    refine wp_iconst (v := nI 0) dX3_isDigit_16 rfl ?_
    exact wp_zreturn dX3_isDigit_17 rfl ⟨rfl, _, rfl, h⟩
  · replace h := h.2 q
    refine wp_iload_n (i := 0) dX3_isDigit_6 rfl rfl ?_
    refine wp_bipush (v := nI 57) dX3_isDigit_7 (by decide) ?_
    refine wp_icmpgt (tgt := 16) dX3_isDigit_9 (by decide) ⟨fun q => ?_, fun q => ?_⟩
    · replace h := h.1 q
      refine wp_iconst (v := nI 0) dX3_isDigit_16 rfl ?_
      exact wp_zreturn dX3_isDigit_17 rfl ⟨rfl, _, rfl, h⟩
    · replace h := h.2 q
      refine wp_iconst (v := nI 1) dX3_isDigit_12 rfl ?_
      refine wp_goto (tgt := 17) dX3_isDigit_13 (by decide) ?_
      exact wp_zreturn dX3_isDigit_17 rfl ⟨rfl, _, rfl, h⟩
set_option maxRecDepth 20000 in
set_option maxHeartbeats 2000000 in
theorem vc_Reader_isSignOf {E : KE} {S : Shp} {d : Nat} {x0 : Int32} {x1 : Int32} {σ : Sg} {K : Int32 → Sg → Prop} (h : (x0 = nI 0 → (¬ x1 = (nI 124) → K (nI 0) σ) ∧ (x1 = (nI 124) → K (nI 1) σ)) ∧ (x0 = nI 1 → (¬ x1 = (nI 38) → K (nI 0) σ) ∧ (x1 = (nI 38) → K (nI 1) σ)) ∧ (x0 = nI 2 → (x1 = (nI 60) → K (nI 1) σ) ∧ (¬ x1 = (nI 60) → (x1 = (nI 61) → K (nI 1) σ) ∧ (¬ x1 = (nI 61) → (¬ x1 = (nI 62) → K (nI 0) σ) ∧ (x1 = (nI 62) → K (nI 1) σ)))) ∧ (x0 = nI 3 → (x1 = (nI 43) → K (nI 1) σ) ∧ (¬ x1 = (nI 43) → (¬ x1 = (nI 45) → K (nI 0) σ) ∧ (x1 = (nI 45) → K (nI 1) σ))) ∧ (¬ x0 = nI 0 → ¬ x0 = nI 1 → ¬ x0 = nI 2 → ¬ x0 = nI 3 → (x1 = (nI 42) → K (nI 1) σ) ∧ (¬ x1 = (nI 42) → (x1 = (nI 47) → K (nI 1) σ) ∧ (¬ x1 = (nI 47) → (¬ x1 = (nI 37) → K (nI 0) σ) ∧ (x1 = (nI 37) → K (nI 1) σ))))) : CallI E S d mX3_isSignOf [.int x0, .int x1] σ K := by
  refine wp_enter (Lo := [some (.int x0), some (.int x1)]) mp_X3_isSignOf (Nat.le_of_ble_eq_true rfl) rfl ?_
  refine wp_iload_n (i := 0) dX3_isSignOf_0 rfl rfl ?_
  rcases Classical.em (x0 = nI 0) with q0 | q0
  · replace h := h.1 q0
    refine wp_tswIn (off := 31) (tgt := 32) dX3_isSignOf_1 (by rw [q0]; decide) (by rw [q0]; decide) (by rw [q0]; rfl) (by decide) ?_
    refine wp_iload_n (i := 1) dX3_isSignOf_32 rfl rfl ?_
    refine wp_bipush (v := nI 124) dX3_isSignOf_33 (by decide) ?_
    refine wp_icmpne (tgt := 42) dX3_isSignOf_35 (by decide) ⟨fun q => ?_, fun q => ?_⟩
    · replace h := h.1 q
      refine wp_iconst (v := nI 0) dX3_isSignOf_42 rfl ?_
      exact wp_zreturn dX3_isSignOf_43 rfl ⟨rfl, _, rfl, h⟩
    · replace h := h.2 q
      refine wp_iconst (v := nI 1) dX3_isSignOf_38 rfl ?_
      refine wp_goto (tgt := 43) dX3_isSignOf_39 (by decide) ?_
      exact wp_zreturn dX3_isSignOf_43 rfl ⟨rfl, _, rfl, h⟩
  rcases Classical.em (x0 = nI 1) with q1 | q1
  · replace h := h.2.1 q1
    refine wp_tswIn (off := 43) (tgt := 44) dX3_isSignOf_1 (by rw [q1]; decide) (by rw [q1]; decide) (by rw [q1]; rfl) (by decide) ?_
    refine wp_iload_n (i := 1) dX3_isSignOf_44 rfl rfl ?_
    refine wp_bipush (v := nI 38) dX3_isSignOf_45 (by decide) ?_
    refine wp_icmpne (tgt := 54) dX3_isSignOf_47 (by decide) ⟨fun q => ?_, fun q => ?_⟩
    · replace h := h.1 q
      refine wp_iconst (v := nI 0) dX3_isSignOf_54 rfl ?_
      exact wp_zreturn dX3_isSignOf_55 rfl ⟨rfl, _, rfl, h⟩
    · replace h := h.2 q
      refine wp_iconst (v := nI 1) dX3_isSignOf_50 rfl ?_
      refine wp_goto (tgt := 55) dX3_isSignOf_51 (by decide) ?_
      exact wp_zreturn dX3_isSignOf_55 rfl ⟨rfl, _, rfl, h⟩
  rcases Classical.em (x0 = nI 2) with q2 | q2
  · replace h := h.2.2.1 q2
    refine wp_tswIn (off := 55) (tgt := 56) dX3_isSignOf_1 (by rw [q2]; decide) (by rw [q2]; decide) (by rw [q2]; rfl) (by decide) ?_
    refine wp_iload_n (i := 1) dX3_isSignOf_56 rfl rfl ?_
    refine wp_bipush (v := nI 60) dX3_isSignOf_57 (by decide) ?_
    refine wp_icmpeq (tgt := 74) dX3_isSignOf_59 (by decide) ⟨fun q => ?_, fun q => ?_⟩
    · replace h := h.1 q
      refine wp_iconst (v := nI 1) dX3_isSignOf_74 rfl ?_
      refine wp_goto (tgt := 79) dX3_isSignOf_75 (by decide) ?_
      exact wp_zreturn dX3_isSignOf_79 rfl ⟨rfl, _, rfl, h⟩
    · replace h := h.2 q
      refine wp_iload_n (i := 1) dX3_isSignOf_62 rfl rfl ?_
      refine wp_bipush (v := nI 61) dX3_isSignOf_63 (by decide) ?_
      refine wp_icmpeq (tgt := 74) dX3_isSignOf_65 (by decide) ⟨fun q => ?_, fun q => ?_⟩
      · replace h := h.1 q
        refine wp_iconst (v := nI 1) dX3_isSignOf_74 rfl ?_
        refine wp_goto (tgt := 79) dX3_isSignOf_75 (by decide) ?_
        exact wp_zreturn dX3_isSignOf_79 rfl ⟨rfl, _, rfl, h⟩
      · replace h := h.2 q
        refine wp_iload_n (i := 1) dX3_isSignOf_68 rfl rfl ?_
        refine wp_bipush (v := nI 62) dX3_isSignOf_69 (by decide) ?_
        refine wp_icmpne (tgt := 78) dX3_isSignOf_71 (by decide) ⟨fun q => ?_, fun q => ?_⟩
        · replace h := h.1 q
          refine wp_iconst (v := nI 0) dX3_isSignOf_78 rfl ?_
          exact wp_zreturn dX3_isSignOf_79 rfl ⟨rfl, _, rfl, h⟩
        · replace h := h.2 q
          refine wp_iconst (v := nI 1) dX3_isSignOf_74 rfl ?_
          refine wp_goto (tgt := 79) dX3_isSignOf_75 (by decide) ?_
          exact wp_zreturn dX3_isSignOf_79 rfl ⟨rfl, _, rfl, h⟩
  rcases Classical.em (x0 = nI 3) with q3 | q3
  · replace h := h.2.2.2.1 q3
    refine wp_tswIn (off := 79) (tgt := 80) dX3_isSignOf_1 (by rw [q3]; decide) (by rw [q3]; decide) (by rw [q3]; rfl) (by decide) ?_
    refine wp_iload_n (i := 1) dX3_isSignOf_80 rfl rfl ?_
    refine wp_bipush (v := nI 43) dX3_isSignOf_81 (by decide) ?_
    refine wp_icmpeq (tgt := 92) dX3_isSignOf_83 (by decide) ⟨fun q => ?_, fun q => ?_⟩
    · replace h := h.1 q
      refine wp_iconst (v := nI 1) dX3_isSignOf_92 rfl ?_
      refine wp_goto (tgt := 97) dX3_isSignOf_93 (by decide) ?_
      exact wp_zreturn dX3_isSignOf_97 rfl ⟨rfl, _, rfl, h⟩
    · replace h := h.2 q
      refine wp_iload_n (i := 1) dX3_isSignOf_86 rfl rfl ?_
      refine wp_bipush (v := nI 45) dX3_isSignOf_87 (by decide) ?_
      refine wp_icmpne (tgt := 96) dX3_isSignOf_89 (by decide) ⟨fun q => ?_, fun q => ?_⟩
      · replace h := h.1 q
        refine wp_iconst (v := nI 0) dX3_isSignOf_96 rfl ?_
        exact wp_zreturn dX3_isSignOf_97 rfl ⟨rfl, _, rfl, h⟩
      · replace h := h.2 q
        refine wp_iconst (v := nI 1) dX3_isSignOf_92 rfl ?_
        refine wp_goto (tgt := 97) dX3_isSignOf_93 (by decide) ?_
        exact wp_zreturn dX3_isSignOf_97 rfl ⟨rfl, _, rfl, h⟩
  have nq0 := lv_neT q0 (show ((nI 0) : Int32).toInt = 0 by decide)
  have nq1 := lv_neT q1 (show ((nI 1) : Int32).toInt = 1 by decide)
  have nq2 := lv_neT q2 (show ((nI 2) : Int32).toInt = 2 by decide)
  have nq3 := lv_neT q3 (show ((nI 3) : Int32).toInt = 3 by decide)
  replace h := h.2.2.2.2 q0 q1 q2 q3
  refine wp_tswOut (tgt := 98) dX3_isSignOf_1 (by omega) (by decide) ?_
  refine wp_iload_n (i := 1) dX3_isSignOf_98 rfl rfl ?_
  refine wp_bipush (v := nI 42) dX3_isSignOf_99 (by decide) ?_
  refine wp_icmpeq (tgt := 116) dX3_isSignOf_101 (by decide) ⟨fun q => ?_, fun q => ?_⟩
  · replace h := h.1 q
    refine wp_iconst (v := nI 1) dX3_isSignOf_116 rfl ?_
    refine wp_goto (tgt := 121) dX3_isSignOf_117 (by decide) ?_
    exact wp_zreturn dX3_isSignOf_121 rfl ⟨rfl, _, rfl, h⟩
  · replace h := h.2 q
    refine wp_iload_n (i := 1) dX3_isSignOf_104 rfl rfl ?_
    refine wp_bipush (v := nI 47) dX3_isSignOf_105 (by decide) ?_
    refine wp_icmpeq (tgt := 116) dX3_isSignOf_107 (by decide) ⟨fun q => ?_, fun q => ?_⟩
    · replace h := h.1 q
      refine wp_iconst (v := nI 1) dX3_isSignOf_116 rfl ?_
      refine wp_goto (tgt := 121) dX3_isSignOf_117 (by decide) ?_
      exact wp_zreturn dX3_isSignOf_121 rfl ⟨rfl, _, rfl, h⟩
    · replace h := h.2 q
      refine wp_iload_n (i := 1) dX3_isSignOf_110 rfl rfl ?_
      refine wp_bipush (v := nI 37) dX3_isSignOf_111 (by decide) ?_
      refine wp_icmpne (tgt := 120) dX3_isSignOf_113 (by decide) ⟨fun q => ?_, fun q => ?_⟩
      · replace h := h.1 q
        refine wp_iconst (v := nI 0) dX3_isSignOf_120 rfl ?_
        exact wp_zreturn dX3_isSignOf_121 rfl ⟨rfl, _, rfl, h⟩
      · replace h := h.2 q
        refine wp_iconst (v := nI 1) dX3_isSignOf_116 rfl ?_
        refine wp_goto (tgt := 121) dX3_isSignOf_117 (by decide) ?_
        exact wp_zreturn dX3_isSignOf_121 rfl ⟨rfl, _, rfl, h⟩
set_option maxRecDepth 20000 in
set_option maxHeartbeats 2000000 in
theorem vc_World_oneMore {E : KE} {S : Shp} {d : Nat} {x0 : Int32} {σ : Sg} {K : Int32 → Sg → Prop} (h : K (if (x0 + (nI 1)) < (nI 9999) then (x0 + (nI 1)) else (nI 9999)) σ) : CallI E S d mX9_oneMore [.int x0] σ K := by
  refine wp_enter (Lo := [some (.int x0)]) mp_X9_oneMore (Nat.le_of_ble_eq_true rfl) rfl ?_
  refine wp_sipush (v := nI 9999) dX9_oneMore_0 (by decide) ?_
  refine wp_iload_n (i := 0) dX9_oneMore_3 rfl rfl ?_
  refine wp_iconst (v := nI 1) dX9_oneMore_4 rfl ?_
  refine wp_iadd dX9_oneMore_5 ?_
  refine wp_mmin dX9_oneMore_6 (lmin lm_X9_78) (Nat.le_of_ble_eq_true rfl) ?_
  exact wp_ireturn dX9_oneMore_9 rfl ⟨_, rfl, h⟩
set_option maxRecDepth 20000 in
set_option maxHeartbeats 2000000 in
theorem vc_World_older {E : KE} {S : Shp} {d : Nat} {x0 : Int32} {x1 : Int32} {σ : Sg} {K : Int32 → Sg → Prop} (h : K (if (x0 + x1) < (nI 9999) then (x0 + x1) else (nI 9999)) σ) : CallI E S d mX9_older [.int x0, .int x1] σ K := by
  refine wp_enter (Lo := [some (.int x0), some (.int x1)]) mp_X9_older (Nat.le_of_ble_eq_true rfl) rfl ?_
  refine wp_sipush (v := nI 9999) dX9_older_0 (by decide) ?_
  refine wp_iload_n (i := 0) dX9_older_3 rfl rfl ?_
  refine wp_iload_n (i := 1) dX9_older_4 rfl rfl ?_
  refine wp_iadd dX9_older_5 ?_
  refine wp_mmin dX9_older_6 (lmin lm_X9_78) (Nat.le_of_ble_eq_true rfl) ?_
  exact wp_ireturn dX9_older_9 rfl ⟨_, rfl, h⟩
set_option maxRecDepth 20000 in
set_option maxHeartbeats 2000000 in
theorem vc_World_poorer {E : KE} {S : Shp} {d : Nat} {x0 : Int32} {x1 : Int32} {σ : Sg} {K : Int32 → Sg → Prop} (h : K (if (nI 0) < (x0 - x1) then (x0 - x1) else (nI 0)) σ) : CallI E S d mX9_poorer [.int x0, .int x1] σ K := by
  refine wp_enter (Lo := [some (.int x0), some (.int x1)]) mp_X9_poorer (Nat.le_of_ble_eq_true rfl) rfl ?_
  refine wp_iconst (v := nI 0) dX9_poorer_0 rfl ?_
  refine wp_iload_n (i := 0) dX9_poorer_1 rfl rfl ?_
  refine wp_iload_n (i := 1) dX9_poorer_2 rfl rfl ?_
  refine wp_isub dX9_poorer_3 ?_
  refine wp_mmax dX9_poorer_4 (lmax lm_X9_83) (Nat.le_of_ble_eq_true rfl) ?_
  exact wp_ireturn dX9_poorer_7 rfl ⟨_, rfl, h⟩
set_option maxRecDepth 20000 in
set_option maxHeartbeats 2000000 in
theorem vc_JI_bitCount {E : KE} {S : Shp} {d : Nat} {x0 : Int32} {σ : Sg} {K : Int32 → Sg → Prop} (h : K ((((((((x0 - (((x0.toUInt32 >>> ((nI 1).toUInt32 &&& Int32.toUInt32 31)).toInt32) &&& (nI 1431655765))) &&& (nI 858993459)) + ((((x0 - (((x0.toUInt32 >>> ((nI 1).toUInt32 &&& Int32.toUInt32 31)).toInt32) &&& (nI 1431655765))).toUInt32 >>> ((nI 2).toUInt32 &&& Int32.toUInt32 31)).toInt32) &&& (nI 858993459))) + (((((x0 - (((x0.toUInt32 >>> ((nI 1).toUInt32 &&& Int32.toUInt32 31)).toInt32) &&& (nI 1431655765))) &&& (nI 858993459)) + ((((x0 - (((x0.toUInt32 >>> ((nI 1).toUInt32 &&& Int32.toUInt32 31)).toInt32) &&& (nI 1431655765))).toUInt32 >>> ((nI 2).toUInt32 &&& Int32.toUInt32 31)).toInt32) &&& (nI 858993459))).toUInt32 >>> ((nI 4).toUInt32 &&& Int32.toUInt32 31)).toInt32)) &&& (nI 252645135)) + (((((((x0 - (((x0.toUInt32 >>> ((nI 1).toUInt32 &&& Int32.toUInt32 31)).toInt32) &&& (nI 1431655765))) &&& (nI 858993459)) + ((((x0 - (((x0.toUInt32 >>> ((nI 1).toUInt32 &&& Int32.toUInt32 31)).toInt32) &&& (nI 1431655765))).toUInt32 >>> ((nI 2).toUInt32 &&& Int32.toUInt32 31)).toInt32) &&& (nI 858993459))) + (((((x0 - (((x0.toUInt32 >>> ((nI 1).toUInt32 &&& Int32.toUInt32 31)).toInt32) &&& (nI 1431655765))) &&& (nI 858993459)) + ((((x0 - (((x0.toUInt32 >>> ((nI 1).toUInt32 &&& Int32.toUInt32 31)).toInt32) &&& (nI 1431655765))).toUInt32 >>> ((nI 2).toUInt32 &&& Int32.toUInt32 31)).toInt32) &&& (nI 858993459))).toUInt32 >>> ((nI 4).toUInt32 &&& Int32.toUInt32 31)).toInt32)) &&& (nI 252645135)).toUInt32 >>> ((nI 8).toUInt32 &&& Int32.toUInt32 31)).toInt32)) + ((((((((x0 - (((x0.toUInt32 >>> ((nI 1).toUInt32 &&& Int32.toUInt32 31)).toInt32) &&& (nI 1431655765))) &&& (nI 858993459)) + ((((x0 - (((x0.toUInt32 >>> ((nI 1).toUInt32 &&& Int32.toUInt32 31)).toInt32) &&& (nI 1431655765))).toUInt32 >>> ((nI 2).toUInt32 &&& Int32.toUInt32 31)).toInt32) &&& (nI 858993459))) + (((((x0 - (((x0.toUInt32 >>> ((nI 1).toUInt32 &&& Int32.toUInt32 31)).toInt32) &&& (nI 1431655765))) &&& (nI 858993459)) + ((((x0 - (((x0.toUInt32 >>> ((nI 1).toUInt32 &&& Int32.toUInt32 31)).toInt32) &&& (nI 1431655765))).toUInt32 >>> ((nI 2).toUInt32 &&& Int32.toUInt32 31)).toInt32) &&& (nI 858993459))).toUInt32 >>> ((nI 4).toUInt32 &&& Int32.toUInt32 31)).toInt32)) &&& (nI 252645135)) + (((((((x0 - (((x0.toUInt32 >>> ((nI 1).toUInt32 &&& Int32.toUInt32 31)).toInt32) &&& (nI 1431655765))) &&& (nI 858993459)) + ((((x0 - (((x0.toUInt32 >>> ((nI 1).toUInt32 &&& Int32.toUInt32 31)).toInt32) &&& (nI 1431655765))).toUInt32 >>> ((nI 2).toUInt32 &&& Int32.toUInt32 31)).toInt32) &&& (nI 858993459))) + (((((x0 - (((x0.toUInt32 >>> ((nI 1).toUInt32 &&& Int32.toUInt32 31)).toInt32) &&& (nI 1431655765))) &&& (nI 858993459)) + ((((x0 - (((x0.toUInt32 >>> ((nI 1).toUInt32 &&& Int32.toUInt32 31)).toInt32) &&& (nI 1431655765))).toUInt32 >>> ((nI 2).toUInt32 &&& Int32.toUInt32 31)).toInt32) &&& (nI 858993459))).toUInt32 >>> ((nI 4).toUInt32 &&& Int32.toUInt32 31)).toInt32)) &&& (nI 252645135)).toUInt32 >>> ((nI 8).toUInt32 &&& Int32.toUInt32 31)).toInt32)).toUInt32 >>> ((nI 16).toUInt32 &&& Int32.toUInt32 31)).toInt32)) &&& (nI 63)) σ) : CallI E S d mJ6_bitCount_0f7a4 [.int x0] σ K := by
  refine wp_enter (Lo := [some (.int x0)]) mp_J6_bitCount_0f7a4 (Nat.le_of_ble_eq_true rfl) rfl ?_
  refine wp_iload_n (i := 0) dJ6_bitCount_0f7a4_0 rfl rfl ?_
  refine wp_iload_n (i := 0) dJ6_bitCount_0f7a4_1 rfl rfl ?_
  refine wp_iconst (v := nI 1) dJ6_bitCount_0f7a4_2 rfl ?_
  refine wp_iushr dJ6_bitCount_0f7a4_3 ?_
  refine wp_ldcw lc_J6_265 dJ6_bitCount_0f7a4_4 ?_
  refine wp_iand dJ6_bitCount_0f7a4_7 ?_
  refine wp_isub dJ6_bitCount_0f7a4_8 ?_
  refine wp_istore_n (i := 0) (Lo' := [some (.int (x0 - (((x0.toUInt32 >>> ((nI 1).toUInt32 &&& Int32.toUInt32 31)).toInt32) &&& (nI 1431655765))))]) dJ6_bitCount_0f7a4_9 rfl (by decide) rfl rfl ?_
  refine wp_iload_n (i := 0) dJ6_bitCount_0f7a4_10 rfl rfl ?_
  refine wp_ldcw lc_J6_266 dJ6_bitCount_0f7a4_11 ?_
  refine wp_iand dJ6_bitCount_0f7a4_14 ?_
  refine wp_iload_n (i := 0) dJ6_bitCount_0f7a4_15 rfl rfl ?_
  refine wp_iconst (v := nI 2) dJ6_bitCount_0f7a4_16 rfl ?_
  refine wp_iushr dJ6_bitCount_0f7a4_17 ?_
  refine wp_ldcw lc_J6_266 dJ6_bitCount_0f7a4_18 ?_
  refine wp_iand dJ6_bitCount_0f7a4_21 ?_
  refine wp_iadd dJ6_bitCount_0f7a4_22 ?_
  refine wp_istore_n (i := 0) (Lo' := [some (.int (((x0 - (((x0.toUInt32 >>> ((nI 1).toUInt32 &&& Int32.toUInt32 31)).toInt32) &&& (nI 1431655765))) &&& (nI 858993459)) + ((((x0 - (((x0.toUInt32 >>> ((nI 1).toUInt32 &&& Int32.toUInt32 31)).toInt32) &&& (nI 1431655765))).toUInt32 >>> ((nI 2).toUInt32 &&& Int32.toUInt32 31)).toInt32) &&& (nI 858993459))))]) dJ6_bitCount_0f7a4_23 rfl (by decide) rfl rfl ?_
  refine wp_iload_n (i := 0) dJ6_bitCount_0f7a4_24 rfl rfl ?_
  refine wp_iload_n (i := 0) dJ6_bitCount_0f7a4_25 rfl rfl ?_
  refine wp_iconst (v := nI 4) dJ6_bitCount_0f7a4_26 rfl ?_
  refine wp_iushr dJ6_bitCount_0f7a4_27 ?_
  refine wp_iadd dJ6_bitCount_0f7a4_28 ?_
  refine wp_ldcw lc_J6_267 dJ6_bitCount_0f7a4_29 ?_
  refine wp_iand dJ6_bitCount_0f7a4_32 ?_
  refine wp_istore_n (i := 0) (Lo' := [some (.int (((((x0 - (((x0.toUInt32 >>> ((nI 1).toUInt32 &&& Int32.toUInt32 31)).toInt32) &&& (nI 1431655765))) &&& (nI 858993459)) + ((((x0 - (((x0.toUInt32 >>> ((nI 1).toUInt32 &&& Int32.toUInt32 31)).toInt32) &&& (nI 1431655765))).toUInt32 >>> ((nI 2).toUInt32 &&& Int32.toUInt32 31)).toInt32) &&& (nI 858993459))) + (((((x0 - (((x0.toUInt32 >>> ((nI 1).toUInt32 &&& Int32.toUInt32 31)).toInt32) &&& (nI 1431655765))) &&& (nI 858993459)) + ((((x0 - (((x0.toUInt32 >>> ((nI 1).toUInt32 &&& Int32.toUInt32 31)).toInt32) &&& (nI 1431655765))).toUInt32 >>> ((nI 2).toUInt32 &&& Int32.toUInt32 31)).toInt32) &&& (nI 858993459))).toUInt32 >>> ((nI 4).toUInt32 &&& Int32.toUInt32 31)).toInt32)) &&& (nI 252645135)))]) dJ6_bitCount_0f7a4_33 rfl (by decide) rfl rfl ?_
  refine wp_iload_n (i := 0) dJ6_bitCount_0f7a4_34 rfl rfl ?_
  refine wp_iload_n (i := 0) dJ6_bitCount_0f7a4_35 rfl rfl ?_
  refine wp_bipush (v := nI 8) dJ6_bitCount_0f7a4_36 (by decide) ?_
  refine wp_iushr dJ6_bitCount_0f7a4_38 ?_
  refine wp_iadd dJ6_bitCount_0f7a4_39 ?_
  refine wp_istore_n (i := 0) (Lo' := [some (.int ((((((x0 - (((x0.toUInt32 >>> ((nI 1).toUInt32 &&& Int32.toUInt32 31)).toInt32) &&& (nI 1431655765))) &&& (nI 858993459)) + ((((x0 - (((x0.toUInt32 >>> ((nI 1).toUInt32 &&& Int32.toUInt32 31)).toInt32) &&& (nI 1431655765))).toUInt32 >>> ((nI 2).toUInt32 &&& Int32.toUInt32 31)).toInt32) &&& (nI 858993459))) + (((((x0 - (((x0.toUInt32 >>> ((nI 1).toUInt32 &&& Int32.toUInt32 31)).toInt32) &&& (nI 1431655765))) &&& (nI 858993459)) + ((((x0 - (((x0.toUInt32 >>> ((nI 1).toUInt32 &&& Int32.toUInt32 31)).toInt32) &&& (nI 1431655765))).toUInt32 >>> ((nI 2).toUInt32 &&& Int32.toUInt32 31)).toInt32) &&& (nI 858993459))).toUInt32 >>> ((nI 4).toUInt32 &&& Int32.toUInt32 31)).toInt32)) &&& (nI 252645135)) + (((((((x0 - (((x0.toUInt32 >>> ((nI 1).toUInt32 &&& Int32.toUInt32 31)).toInt32) &&& (nI 1431655765))) &&& (nI 858993459)) + ((((x0 - (((x0.toUInt32 >>> ((nI 1).toUInt32 &&& Int32.toUInt32 31)).toInt32) &&& (nI 1431655765))).toUInt32 >>> ((nI 2).toUInt32 &&& Int32.toUInt32 31)).toInt32) &&& (nI 858993459))) + (((((x0 - (((x0.toUInt32 >>> ((nI 1).toUInt32 &&& Int32.toUInt32 31)).toInt32) &&& (nI 1431655765))) &&& (nI 858993459)) + ((((x0 - (((x0.toUInt32 >>> ((nI 1).toUInt32 &&& Int32.toUInt32 31)).toInt32) &&& (nI 1431655765))).toUInt32 >>> ((nI 2).toUInt32 &&& Int32.toUInt32 31)).toInt32) &&& (nI 858993459))).toUInt32 >>> ((nI 4).toUInt32 &&& Int32.toUInt32 31)).toInt32)) &&& (nI 252645135)).toUInt32 >>> ((nI 8).toUInt32 &&& Int32.toUInt32 31)).toInt32)))]) dJ6_bitCount_0f7a4_40 rfl (by decide) rfl rfl ?_
  refine wp_iload_n (i := 0) dJ6_bitCount_0f7a4_41 rfl rfl ?_
  refine wp_iload_n (i := 0) dJ6_bitCount_0f7a4_42 rfl rfl ?_
  refine wp_bipush (v := nI 16) dJ6_bitCount_0f7a4_43 (by decide) ?_
  refine wp_iushr dJ6_bitCount_0f7a4_45 ?_
  refine wp_iadd dJ6_bitCount_0f7a4_46 ?_
  refine wp_istore_n (i := 0) (Lo' := [some (.int (((((((x0 - (((x0.toUInt32 >>> ((nI 1).toUInt32 &&& Int32.toUInt32 31)).toInt32) &&& (nI 1431655765))) &&& (nI 858993459)) + ((((x0 - (((x0.toUInt32 >>> ((nI 1).toUInt32 &&& Int32.toUInt32 31)).toInt32) &&& (nI 1431655765))).toUInt32 >>> ((nI 2).toUInt32 &&& Int32.toUInt32 31)).toInt32) &&& (nI 858993459))) + (((((x0 - (((x0.toUInt32 >>> ((nI 1).toUInt32 &&& Int32.toUInt32 31)).toInt32) &&& (nI 1431655765))) &&& (nI 858993459)) + ((((x0 - (((x0.toUInt32 >>> ((nI 1).toUInt32 &&& Int32.toUInt32 31)).toInt32) &&& (nI 1431655765))).toUInt32 >>> ((nI 2).toUInt32 &&& Int32.toUInt32 31)).toInt32) &&& (nI 858993459))).toUInt32 >>> ((nI 4).toUInt32 &&& Int32.toUInt32 31)).toInt32)) &&& (nI 252645135)) + (((((((x0 - (((x0.toUInt32 >>> ((nI 1).toUInt32 &&& Int32.toUInt32 31)).toInt32) &&& (nI 1431655765))) &&& (nI 858993459)) + ((((x0 - (((x0.toUInt32 >>> ((nI 1).toUInt32 &&& Int32.toUInt32 31)).toInt32) &&& (nI 1431655765))).toUInt32 >>> ((nI 2).toUInt32 &&& Int32.toUInt32 31)).toInt32) &&& (nI 858993459))) + (((((x0 - (((x0.toUInt32 >>> ((nI 1).toUInt32 &&& Int32.toUInt32 31)).toInt32) &&& (nI 1431655765))) &&& (nI 858993459)) + ((((x0 - (((x0.toUInt32 >>> ((nI 1).toUInt32 &&& Int32.toUInt32 31)).toInt32) &&& (nI 1431655765))).toUInt32 >>> ((nI 2).toUInt32 &&& Int32.toUInt32 31)).toInt32) &&& (nI 858993459))).toUInt32 >>> ((nI 4).toUInt32 &&& Int32.toUInt32 31)).toInt32)) &&& (nI 252645135)).toUInt32 >>> ((nI 8).toUInt32 &&& Int32.toUInt32 31)).toInt32)) + ((((((((x0 - (((x0.toUInt32 >>> ((nI 1).toUInt32 &&& Int32.toUInt32 31)).toInt32) &&& (nI 1431655765))) &&& (nI 858993459)) + ((((x0 - (((x0.toUInt32 >>> ((nI 1).toUInt32 &&& Int32.toUInt32 31)).toInt32) &&& (nI 1431655765))).toUInt32 >>> ((nI 2).toUInt32 &&& Int32.toUInt32 31)).toInt32) &&& (nI 858993459))) + (((((x0 - (((x0.toUInt32 >>> ((nI 1).toUInt32 &&& Int32.toUInt32 31)).toInt32) &&& (nI 1431655765))) &&& (nI 858993459)) + ((((x0 - (((x0.toUInt32 >>> ((nI 1).toUInt32 &&& Int32.toUInt32 31)).toInt32) &&& (nI 1431655765))).toUInt32 >>> ((nI 2).toUInt32 &&& Int32.toUInt32 31)).toInt32) &&& (nI 858993459))).toUInt32 >>> ((nI 4).toUInt32 &&& Int32.toUInt32 31)).toInt32)) &&& (nI 252645135)) + (((((((x0 - (((x0.toUInt32 >>> ((nI 1).toUInt32 &&& Int32.toUInt32 31)).toInt32) &&& (nI 1431655765))) &&& (nI 858993459)) + ((((x0 - (((x0.toUInt32 >>> ((nI 1).toUInt32 &&& Int32.toUInt32 31)).toInt32) &&& (nI 1431655765))).toUInt32 >>> ((nI 2).toUInt32 &&& Int32.toUInt32 31)).toInt32) &&& (nI 858993459))) + (((((x0 - (((x0.toUInt32 >>> ((nI 1).toUInt32 &&& Int32.toUInt32 31)).toInt32) &&& (nI 1431655765))) &&& (nI 858993459)) + ((((x0 - (((x0.toUInt32 >>> ((nI 1).toUInt32 &&& Int32.toUInt32 31)).toInt32) &&& (nI 1431655765))).toUInt32 >>> ((nI 2).toUInt32 &&& Int32.toUInt32 31)).toInt32) &&& (nI 858993459))).toUInt32 >>> ((nI 4).toUInt32 &&& Int32.toUInt32 31)).toInt32)) &&& (nI 252645135)).toUInt32 >>> ((nI 8).toUInt32 &&& Int32.toUInt32 31)).toInt32)).toUInt32 >>> ((nI 16).toUInt32 &&& Int32.toUInt32 31)).toInt32)))]) dJ6_bitCount_0f7a4_47 rfl (by decide) rfl rfl ?_
  refine wp_iload_n (i := 0) dJ6_bitCount_0f7a4_48 rfl rfl ?_
  refine wp_bipush (v := nI 63) dJ6_bitCount_0f7a4_49 (by decide) ?_
  refine wp_iand dJ6_bitCount_0f7a4_51 ?_
  exact wp_ireturn dJ6_bitCount_0f7a4_52 rfl ⟨_, rfl, h⟩
set_option maxRecDepth 20000 in
set_option maxHeartbeats 2000000 in
theorem vb_Md_bits_4 {E : KE} {S : Shp} {d : Nat} {x1 : Int32} {x2 : Int32} {σ : Sg} {K : Int32 → Sg → Prop} (h : (x2 = 0 → K x1 σ) ∧ (¬ x2 = 0 → WP E S mX11_bits d 4 [none, some (.int (x1 + nI 1)), some (.int (x2 &&& (x2 - (nI 1))))] [] σ (k_qi K))) : WP E S mX11_bits d 4 [none, some (.int x1), some (.int x2)] [] σ (k_qi K) := by
  refine wp_iload_n (i := 2) dX11_bits_4 rfl rfl ?_
  refine wp_ifeq (tgt := 20) dX11_bits_5 (by decide) ⟨fun q => ?_, fun q => ?_⟩
  · replace h := h.1 q
    refine wp_iload_n (i := 1) dX11_bits_20 rfl rfl ?_
    exact wp_ireturn dX11_bits_21 rfl ⟨_, rfl, h⟩
  · replace h := h.2 q
    refine wp_iinc (i := 1) (v := x1 + nI 1) (Lo' := [none, some (.int (x1 + nI 1)), some (.int x2)]) dX11_bits_8 rfl (by rfl) (by decide) rfl rfl ?_
    refine wp_iload_n (i := 2) dX11_bits_11 rfl rfl ?_
    refine wp_iload_n (i := 2) dX11_bits_12 rfl rfl ?_
    refine wp_iconst (v := nI 1) dX11_bits_13 rfl ?_
    refine wp_isub dX11_bits_14 ?_
    refine wp_iand dX11_bits_15 ?_
    refine wp_istore_n (i := 2) (Lo' := [none, some (.int (x1 + nI 1)), some (.int (x2 &&& (x2 - (nI 1))))]) dX11_bits_16 rfl (by decide) rfl rfl ?_
    refine wp_goto (tgt := 4) dX11_bits_17 (by decide) ?_
    exact wp_mask [false, true, true] h
set_option maxRecDepth 20000 in
set_option maxHeartbeats 2000000 in
theorem vc_Md_bits {E : KE} {S : Shp} {d : Nat} {x0 : Int32} {σ : Sg} {K : Int32 → Sg → Prop} (h : WP E S mX11_bits d 4 [none, some (.int (nI 0)), some (.int x0)] [] σ (k_qi K)) : CallI E S d mX11_bits [.int x0] σ K := by
  refine wp_enter (Lo := [some (.int x0), none, none]) mp_X11_bits (Nat.le_of_ble_eq_true rfl) rfl ?_
  refine wp_iconst (v := nI 0) dX11_bits_0 rfl ?_
  refine wp_istore_n (i := 1) (Lo' := [some (.int x0), some (.int (nI 0)), none]) dX11_bits_1 rfl (by decide) rfl rfl ?_
  refine wp_iload_n (i := 0) dX11_bits_2 rfl rfl ?_
  refine wp_istore_n (i := 2) (Lo' := [some (.int x0), some (.int (nI 0)), some (.int x0)]) dX11_bits_3 rfl (by decide) rfl rfl ?_
  exact wp_mask [false, true, true] h
set_option maxRecDepth 20000 in
set_option maxHeartbeats 2000000 in
theorem vb_Thoughts_memberOf_4 {E : KE} {S : Shp} {d : Nat} {x0 : Int32} {x2 : Int32} {x3 : Int32} {σ : Sg} {K : Int32 → Sg → Prop} (h : ((nI 28) ≤ x3 → K (-1 : Int32) σ) ∧ (¬ (nI 28) ≤ x3 → (¬ ((x0 >>> (x3 &&& 31)) &&& (nI 1)) = (nI 1) → WP E S mX7_memberOf d 4 [some (.int x0), none, some (.int x2), some (.int (x3 + nI 1))] [] σ (k_qi K)) ∧ (((x0 >>> (x3 &&& 31)) &&& (nI 1)) = (nI 1) → (¬ x2 = 0 → WP E S mX7_memberOf d 4 [some (.int x0), none, some (.int (x2 + (-1 : Int32))), some (.int (x3 + nI 1))] [] σ (k_qi K)) ∧ (x2 = 0 → K x3 σ)))) : WP E S mX7_memberOf d 4 [some (.int x0), none, some (.int x2), some (.int x3)] [] σ (k_qi K) := by
  refine wp_iload_n (i := 3) dX7_memberOf_4 rfl rfl ?_
  refine wp_bipush (v := nI 28) dX7_memberOf_5 (by decide) ?_
  refine wp_icmpge (tgt := 34) dX7_memberOf_7 (by decide) ⟨fun q => ?_, fun q => ?_⟩
  · replace h := h.1 q
    refine wp_iconst (v := (-1 : Int32)) dX7_memberOf_34 rfl ?_
    exact wp_ireturn dX7_memberOf_35 rfl ⟨_, rfl, h⟩
  · replace h := h.2 q
    refine wp_iload_n (i := 0) dX7_memberOf_10 rfl rfl ?_
    refine wp_iload_n (i := 3) dX7_memberOf_11 rfl rfl ?_
    refine wp_ishr dX7_memberOf_12 ?_
    refine wp_iconst (v := nI 1) dX7_memberOf_13 rfl ?_
    refine wp_iand dX7_memberOf_14 ?_
    refine wp_iconst (v := nI 1) dX7_memberOf_15 rfl ?_
    refine wp_icmpne (tgt := 28) dX7_memberOf_16 (by decide) ⟨fun q => ?_, fun q => ?_⟩
    · replace h := h.1 q
      refine wp_iinc (i := 3) (v := x3 + nI 1) (Lo' := [some (.int x0), none, some (.int x2), some (.int (x3 + nI 1))]) dX7_memberOf_28 rfl (by rfl) (by decide) rfl rfl ?_
      refine wp_goto (tgt := 4) dX7_memberOf_31 (by decide) ?_
      exact wp_mask [true, false, true, true] h
    · replace h := h.2 q
      refine wp_iload_n (i := 2) dX7_memberOf_19 rfl rfl ?_
      refine wp_ifne (tgt := 25) dX7_memberOf_20 (by decide) ⟨fun q => ?_, fun q => ?_⟩
      · replace h := h.1 q
        refine wp_iinc (i := 2) (v := x2 + (-1 : Int32)) (Lo' := [some (.int x0), none, some (.int (x2 + (-1 : Int32))), some (.int x3)]) dX7_memberOf_25 rfl (by rfl) (by decide) rfl rfl ?_
        refine wp_iinc (i := 3) (v := x3 + nI 1) (Lo' := [some (.int x0), none, some (.int (x2 + (-1 : Int32))), some (.int (x3 + nI 1))]) dX7_memberOf_28 rfl (by rfl) (by decide) rfl rfl ?_
        refine wp_goto (tgt := 4) dX7_memberOf_31 (by decide) ?_
        exact wp_mask [true, false, true, true] h
      · replace h := h.2 q
        refine wp_iload_n (i := 3) dX7_memberOf_23 rfl rfl ?_
        exact wp_ireturn dX7_memberOf_24 rfl ⟨_, rfl, h⟩
set_option maxRecDepth 20000 in
set_option maxHeartbeats 2000000 in
theorem vc_Thoughts_memberOf {E : KE} {S : Shp} {d : Nat} {x0 : Int32} {x1 : Int32} {σ : Sg} {K : Int32 → Sg → Prop} (h : WP E S mX7_memberOf d 4 [some (.int x0), none, some (.int x1), some (.int (nI 0))] [] σ (k_qi K)) : CallI E S d mX7_memberOf [.int x0, .int x1] σ K := by
  refine wp_enter (Lo := [some (.int x0), some (.int x1), none, none]) mp_X7_memberOf (Nat.le_of_ble_eq_true rfl) rfl ?_
  refine wp_iload_n (i := 1) dX7_memberOf_0 rfl rfl ?_
  refine wp_istore_n (i := 2) (Lo' := [some (.int x0), some (.int x1), some (.int x1), none]) dX7_memberOf_1 rfl (by decide) rfl rfl ?_
  refine wp_iconst (v := nI 0) dX7_memberOf_2 rfl ?_
  refine wp_istore_n (i := 3) (Lo' := [some (.int x0), some (.int x1), some (.int x1), some (.int (nI 0))]) dX7_memberOf_3 rfl (by decide) rfl rfl ?_
  exact wp_mask [true, false, true, true] h
set_option maxRecDepth 20000 in
set_option maxHeartbeats 2000000 in
theorem vb_Thoughts_commonDivisor_3 {E : KE} {S : Shp} {d : Nat} {x0 : Int32} {x1 : Int32} {σ : Sg} {K : Int32 → Sg → Prop} (h : (x1 ≤ (nI 1) → K (nI 1) σ) ∧ (¬ x1 ≤ (nI 1) → ¬ x1 = 0 ∧ ((¬ ((nI 28) - (nI 28) / x1 * x1) = 0 → WP E S mX7_commonDivisor d 3 [some (.int x0), some (.int (x1 + (-1 : Int32)))] [] σ (k_qi K)) ∧ (((nI 28) - (nI 28) / x1 * x1) = 0 → ¬ x1 = 0 ∧ ((¬ (x0 - x0 / x1 * x1) = 0 → WP E S mX7_commonDivisor d 3 [some (.int x0), some (.int (x1 + (-1 : Int32)))] [] σ (k_qi K)) ∧ ((x0 - x0 / x1 * x1) = 0 → K x1 σ)))))) : WP E S mX7_commonDivisor d 3 [some (.int x0), some (.int x1)] [] σ (k_qi K) := by
  refine wp_iload_n (i := 1) dX7_commonDivisor_3 rfl rfl ?_
  refine wp_iconst (v := nI 1) dX7_commonDivisor_4 rfl ?_
  refine wp_icmple (tgt := 29) dX7_commonDivisor_5 (by decide) ⟨fun q => ?_, fun q => ?_⟩
  · replace h := h.1 q
    refine wp_iconst (v := nI 1) dX7_commonDivisor_29 rfl ?_
    exact wp_ireturn dX7_commonDivisor_30 rfl ⟨_, rfl, h⟩
  · replace h := h.2 q
    refine wp_bipush (v := nI 28) dX7_commonDivisor_8 (by decide) ?_
    refine wp_iload_n (i := 1) dX7_commonDivisor_10 rfl rfl ?_
    refine wp_irem dX7_commonDivisor_11 ⟨h.1, ?_⟩
    replace h := h.2
    refine wp_ifne (tgt := 23) dX7_commonDivisor_12 (by decide) ⟨fun q => ?_, fun q => ?_⟩
    · replace h := h.1 q
      refine wp_iinc (i := 1) (v := x1 + (-1 : Int32)) (Lo' := [some (.int x0), some (.int (x1 + (-1 : Int32)))]) dX7_commonDivisor_23 rfl (by rfl) (by decide) rfl rfl ?_
      refine wp_goto (tgt := 3) dX7_commonDivisor_26 (by decide) ?_
      exact wp_mask [true, true] h
    · replace h := h.2 q
      refine wp_iload_n (i := 0) dX7_commonDivisor_15 rfl rfl ?_
      refine wp_iload_n (i := 1) dX7_commonDivisor_16 rfl rfl ?_
      refine wp_irem dX7_commonDivisor_17 ⟨h.1, ?_⟩
      replace h := h.2
      refine wp_ifne (tgt := 23) dX7_commonDivisor_18 (by decide) ⟨fun q => ?_, fun q => ?_⟩
      · replace h := h.1 q
        refine wp_iinc (i := 1) (v := x1 + (-1 : Int32)) (Lo' := [some (.int x0), some (.int (x1 + (-1 : Int32)))]) dX7_commonDivisor_23 rfl (by rfl) (by decide) rfl rfl ?_
        refine wp_goto (tgt := 3) dX7_commonDivisor_26 (by decide) ?_
        exact wp_mask [true, true] h
      · replace h := h.2 q
        refine wp_iload_n (i := 1) dX7_commonDivisor_21 rfl rfl ?_
        exact wp_ireturn dX7_commonDivisor_22 rfl ⟨_, rfl, h⟩
set_option maxRecDepth 20000 in
set_option maxHeartbeats 2000000 in
theorem vc_Thoughts_commonDivisor {E : KE} {S : Shp} {d : Nat} {x0 : Int32} {σ : Sg} {K : Int32 → Sg → Prop} (h : WP E S mX7_commonDivisor d 3 [some (.int x0), some (.int (nI 28))] [] σ (k_qi K)) : CallI E S d mX7_commonDivisor [.int x0] σ K := by
  refine wp_enter (Lo := [some (.int x0), none]) mp_X7_commonDivisor (Nat.le_of_ble_eq_true rfl) rfl ?_
  refine wp_bipush (v := nI 28) dX7_commonDivisor_0 (by decide) ?_
  refine wp_istore_n (i := 1) (Lo' := [some (.int x0), some (.int (nI 28))]) dX7_commonDivisor_2 rfl (by decide) rfl rfl ?_
  exact wp_mask [true, true] h
set_option maxRecDepth 20000 in
set_option maxHeartbeats 2000000 in
theorem vc_Sheets_isSheet {E : KE} {S : Shp} {d : Nat} {x0 : Int32} {σ : Sg} {K : Int32 → Sg → Prop} (h : (x0 < 0 → K (nI 0) σ) ∧ (¬ x0 < 0 → ((nI 4) ≤ x0 → K (nI 0) σ) ∧ (¬ (nI 4) ≤ x0 → K (nI 1) σ))) : CallI E S d mX5_isSheet [.int x0] σ K := by
  refine wp_enter (Lo := [some (.int x0)]) mp_X5_isSheet (Nat.le_of_ble_eq_true rfl) rfl ?_
  refine wp_iload_n (i := 0) dX5_isSheet_0 rfl rfl ?_
  refine wp_iflt (tgt := 13) dX5_isSheet_1 (by decide) ⟨fun q => ?_, fun q => ?_⟩
  · replace h := h.1 q
    refine wp_iconst (v := nI 0) dX5_isSheet_13 rfl ?_
    exact wp_zreturn dX5_isSheet_14 rfl ⟨rfl, _, rfl, h⟩
  · replace h := h.2 q
    refine wp_iload_n (i := 0) dX5_isSheet_4 rfl rfl ?_
    refine wp_iconst (v := nI 4) dX5_isSheet_5 rfl ?_
    refine wp_icmpge (tgt := 13) dX5_isSheet_6 (by decide) ⟨fun q => ?_, fun q => ?_⟩
    · replace h := h.1 q
      refine wp_iconst (v := nI 0) dX5_isSheet_13 rfl ?_
      exact wp_zreturn dX5_isSheet_14 rfl ⟨rfl, _, rfl, h⟩
    · replace h := h.2 q
      refine wp_iconst (v := nI 1) dX5_isSheet_9 rfl ?_
      refine wp_goto (tgt := 14) dX5_isSheet_10 (by decide) ?_
      exact wp_zreturn dX5_isSheet_14 rfl ⟨rfl, _, rfl, h⟩
set_option maxRecDepth 20000 in
set_option maxHeartbeats 2000000 in
theorem vc_Md_isSheet {E : KE} {S : Shp} {d : Nat} {x0 : Int32} {σ : Sg} {K : Int32 → Sg → Prop} (h : CallI E S d mX11_in [.int x0, .int (nI 0), .int (nI 3)] σ (fun y2 σ1 => (y2 = 0 ∨ y2 = 1) ∧ K y2 σ1)) : CallI E S (d + 1) mX11_isSheet [.int x0] σ K := by
  refine wp_enter (Lo := [some (.int x0)]) mp_X11_isSheet (Nat.le_of_ble_eq_true rfl) rfl ?_
  refine wp_iload_n (i := 0) dX11_isSheet_0 rfl rfl ?_
  refine wp_iconst (v := nI 0) dX11_isSheet_1 rfl ?_
  refine wp_iconst (v := nI 3) dX11_isSheet_2 rfl ?_
  refine wp_callSI (vs := [.int x0, .int (nI 0), .int (nI 3)]) (rest := []) dX11_isSheet_3 mS_X11_in lm_X11_53 rfl rfl (Nat.le_of_ble_eq_true rfl) (CallI.mono h (fun y2 σ1 h => ?_))
  exact wp_zreturn dX11_isSheet_6 rfl ⟨k_bool h.1, _, rfl, h.2⟩
set_option maxRecDepth 20000 in
set_option maxHeartbeats 2000000 in
theorem vc_Kinds_bodyOf {E : KE} {S : Shp} {d : Nat} {x0 : Int32} {x1 : Int32} {σ : Sg} {K : Int32 → Sg → Prop} (h : CallI E S d mX0_isKind [.int x0] σ (fun y2 σ1 => (y2 = 0 → K (nI 0) σ1) ∧ (¬ y2 = 0 → (x1 < 0 → K (nI 0) σ1) ∧ (¬ x1 < 0 → ((nI 4) ≤ x1 → K (nI 0) σ1) ∧ (¬ (nI 4) ≤ x1 → vp_in ((x0 * (nI 4)) + x1) 28 ∧ (K (k_tv 1 ((x0 * (nI 4)) + x1).toNatClampNeg) σ1)))))) : CallI E S (d + 1) mX0_bodyOf [.int x0, .int x1] σ K := by
  refine wp_enter (Lo := [some (.int x0), some (.int x1)]) mp_X0_bodyOf (Nat.le_of_ble_eq_true rfl) rfl ?_
  refine wp_iload_n (i := 0) dX0_bodyOf_0 rfl rfl ?_
  refine wp_callSI (vs := [.int x0]) (rest := []) dX0_bodyOf_1 mS_X0_isKind lm_X0_11 rfl rfl (Nat.le_of_ble_eq_true rfl) (CallI.mono h (fun y2 σ1 h => ?_))
  refine wp_ifeq (tgt := 28) dX0_bodyOf_4 (by decide) ⟨fun q => ?_, fun q => ?_⟩
  · replace h := h.1 q
    refine wp_iconst (v := nI 0) dX0_bodyOf_28 rfl ?_
    exact wp_ireturn dX0_bodyOf_29 rfl ⟨_, rfl, h⟩
  · replace h := h.2 q
    refine wp_iload_n (i := 1) dX0_bodyOf_7 rfl rfl ?_
    refine wp_iflt (tgt := 28) dX0_bodyOf_8 (by decide) ⟨fun q => ?_, fun q => ?_⟩
    · replace h := h.1 q
      refine wp_iconst (v := nI 0) dX0_bodyOf_28 rfl ?_
      exact wp_ireturn dX0_bodyOf_29 rfl ⟨_, rfl, h⟩
    · replace h := h.2 q
      refine wp_iload_n (i := 1) dX0_bodyOf_11 rfl rfl ?_
      refine wp_iconst (v := nI 4) dX0_bodyOf_12 rfl ?_
      refine wp_icmpge (tgt := 28) dX0_bodyOf_13 (by decide) ⟨fun q => ?_, fun q => ?_⟩
      · replace h := h.1 q
        refine wp_iconst (v := nI 0) dX0_bodyOf_28 rfl ?_
        exact wp_ireturn dX0_bodyOf_29 rfl ⟨_, rfl, h⟩
      · replace h := h.2 q
        refine wp_gets1 dX0_bodyOf_16 ls_X0_27 ?_
        refine wp_iload_n (i := 0) dX0_bodyOf_19 rfl rfl ?_
        refine wp_iconst (v := nI 4) dX0_bodyOf_20 rfl ?_
        refine wp_imul dX0_bodyOf_21 ?_
        refine wp_iload_n (i := 1) dX0_bodyOf_22 rfl rfl ?_
        refine wp_iadd dX0_bodyOf_23 ?_
        refine wp_tab1 dX0_bodyOf_24 ⟨h.1, ?_⟩
        replace h := h.2
        refine wp_goto (tgt := 29) dX0_bodyOf_25 (by decide) ?_
        exact wp_ireturn dX0_bodyOf_29 rfl ⟨_, rfl, h⟩
set_option maxRecDepth 20000 in
set_option maxHeartbeats 2000000 in
theorem vb_Kinds_speaker_4 {E : KE} {S : Shp} {d : Nat} {x1 : Int32} {x2 : Int32} {x3 : Int32} {σ : Sg} {K : Int32 → Sg → Prop} (h : ((nI 7) ≤ x3 → K x2 σ) ∧ (¬ (nI 7) ≤ x3 → CallI E S d mX0_bodyOf [.int x2, .int x1] σ (fun y2 σ1 => (¬ y2 = 0 → K x2 σ1) ∧ (y2 = 0 → CallI E S d mX0_above [.int x2] σ1 (fun y4 σ3 => WP E S mX0_speaker (d + 1) 4 [none, some (.int x1), some (.int y4), some (.int (x3 + nI 1))] [] σ3 (k_qi K)))))) : WP E S mX0_speaker (d + 1) 4 [none, some (.int x1), some (.int x2), some (.int x3)] [] σ (k_qi K) := by
  refine wp_iload_n (i := 3) dX0_speaker_4 rfl rfl ?_
  refine wp_bipush (v := nI 7) dX0_speaker_5 (by decide) ?_
  refine wp_icmpge (tgt := 29) dX0_speaker_7 (by decide) ⟨fun q => ?_, fun q => ?_⟩
  · replace h := h.1 q
    refine wp_iload_n (i := 2) dX0_speaker_29 rfl rfl ?_
    exact wp_ireturn dX0_speaker_30 rfl ⟨_, rfl, h⟩
  · replace h := h.2 q
    refine wp_iload_n (i := 2) dX0_speaker_10 rfl rfl ?_
    refine wp_iload_n (i := 1) dX0_speaker_11 rfl rfl ?_
    refine wp_callSI (vs := [.int x2, .int x1]) (rest := []) dX0_speaker_12 mS_X0_bodyOf lm_X0_23 rfl rfl (Nat.le_of_ble_eq_true rfl) (CallI.mono h (fun y2 σ1 h => ?_))
    refine wp_ifne (tgt := 29) dX0_speaker_15 (by decide) ⟨fun q => ?_, fun q => ?_⟩
    · replace h := h.1 q
      refine wp_iload_n (i := 2) dX0_speaker_29 rfl rfl ?_
      exact wp_ireturn dX0_speaker_30 rfl ⟨_, rfl, h⟩
    · replace h := h.2 q
      refine wp_iload_n (i := 2) dX0_speaker_18 rfl rfl ?_
      refine wp_callSI (vs := [.int x2]) (rest := []) dX0_speaker_19 mS_X0_above lm_X0_19 rfl rfl (Nat.le_of_ble_eq_true rfl) (CallI.mono h (fun y4 σ3 h => ?_))
      refine wp_istore_n (i := 2) (Lo' := [none, some (.int x1), some (.int y4), some (.int x3)]) dX0_speaker_22 rfl (by decide) rfl rfl ?_
      refine wp_iinc (i := 3) (v := x3 + nI 1) (Lo' := [none, some (.int x1), some (.int y4), some (.int (x3 + nI 1))]) dX0_speaker_23 rfl (by rfl) (by decide) rfl rfl ?_
      refine wp_goto (tgt := 4) dX0_speaker_26 (by decide) ?_
      exact wp_mask [false, true, true, true] h
set_option maxRecDepth 20000 in
set_option maxHeartbeats 2000000 in
theorem vc_Kinds_speaker {E : KE} {S : Shp} {d : Nat} {x0 : Int32} {x1 : Int32} {σ : Sg} {K : Int32 → Sg → Prop} (h : WP E S mX0_speaker (d + 1) 4 [none, some (.int x1), some (.int x0), some (.int (nI 0))] [] σ (k_qi K)) : CallI E S (d + 1) mX0_speaker [.int x0, .int x1] σ K := by
  refine wp_enter (Lo := [some (.int x0), some (.int x1), none, none]) mp_X0_speaker (Nat.le_of_ble_eq_true rfl) rfl ?_
  refine wp_iload_n (i := 0) dX0_speaker_0 rfl rfl ?_
  refine wp_istore_n (i := 2) (Lo' := [some (.int x0), some (.int x1), some (.int x0), none]) dX0_speaker_1 rfl (by decide) rfl rfl ?_
  refine wp_iconst (v := nI 0) dX0_speaker_2 rfl ?_
  refine wp_istore_n (i := 3) (Lo' := [some (.int x0), some (.int x1), some (.int x0), some (.int (nI 0))]) dX0_speaker_3 rfl (by decide) rfl rfl ?_
  exact wp_mask [false, true, true, true] h

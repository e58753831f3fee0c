set_option maxRecDepth 20000 in
set_option maxHeartbeats 2000000 in
theorem vc_People_setKind {E : KE} {d : Nat} {x1 : Int32} {x2 : Int32} {σ : Sg} {K : Sg → Prop} (h : vp_in x1 6 ∧ (∀ σ1, σ1 = k_put σ 3 (upd (σ 3) x1.toNatClampNeg (x2 / (nI 10))) → vp_in x1 6 ∧ (∀ σ3, σ3 = k_put σ1 4 (upd (σ1 4) x1.toNatClampNeg (x2 - x2 / (nI 10) * (nI 10))) → K σ3))) : CallN E shC d mX1_setKind [.ref 2, .int x1, .int x2] σ K := by
  refine wp_enter (Lo := [some (.ref 2), some (.int x1), some (.int x2)]) mp_X1_setKind (Nat.le_of_ble_eq_true rfl) rfl ?_
  refine wp_aload_n (i := 0) dX1_setKind_0 rfl rfl ?_
  refine wp_getR (t := 3) dX1_setKind_1 lf_X1_9 hC_2 rfl ?_
  refine wp_iload_n (i := 1) dX1_setKind_4 rfl rfl ?_
  refine wp_iload_n (i := 2) dX1_setKind_5 rfl rfl ?_
  refine wp_bipush (v := nI 10) dX1_setKind_6 (by decide) ?_
  refine wp_idiv dX1_setKind_8 ⟨by decide, ?_⟩
  refine wp_iast dX1_setKind_9 hC_3 ⟨h.1, ?_⟩
  refine wp_nm (fun σ1 e2 => ?_)
  replace h := h.2 σ1 e2
  refine wp_aload_n (i := 0) dX1_setKind_10 rfl rfl ?_
  refine wp_getR (t := 4) dX1_setKind_11 lf_X1_15 hC_2 rfl ?_
  refine wp_iload_n (i := 1) dX1_setKind_14 rfl rfl ?_
  refine wp_iload_n (i := 2) dX1_setKind_15 rfl rfl ?_
  refine wp_bipush (v := nI 10) dX1_setKind_16 (by decide) ?_
  refine wp_irem dX1_setKind_18 ⟨by decide, ?_⟩
  refine wp_iast dX1_setKind_19 hC_4 ⟨h.1, ?_⟩
  refine wp_nm (fun σ3 e4 => ?_)
  replace h := h.2 σ3 e4
  exact wp_return dX1_setKind_20 rfl ⟨rfl, h⟩
set_option maxRecDepth 20000 in
set_option maxHeartbeats 2000000 in
theorem vc_People_setTimes {E : KE} {d : Nat} {x1 : Int32} {x2 : Int32} {x3 : Int32} {σ : Sg} {K : Sg → Prop} (h : vp_in ((x1 * (nI 28)) + x2) 168 ∧ (∀ σ1, σ1 = k_put σ 7 (upd (σ 7) ((x1 * (nI 28)) + x2).toNatClampNeg x3) → K σ1)) : CallN E shC d mX1_setTimes [.ref 2, .int x1, .int x2, .int x3] σ K := by
  refine wp_enter (Lo := [some (.ref 2), some (.int x1), some (.int x2), some (.int x3)]) mp_X1_setTimes (Nat.le_of_ble_eq_true rfl) rfl ?_
  refine wp_aload_n (i := 0) dX1_setTimes_0 rfl rfl ?_
  refine wp_getR (t := 7) dX1_setTimes_1 lf_X1_24 hC_2 rfl ?_
  refine wp_iload_n (i := 1) dX1_setTimes_4 rfl rfl ?_
  refine wp_bipush (v := nI 28) dX1_setTimes_5 (by decide) ?_
  refine wp_imul dX1_setTimes_7 ?_
  refine wp_iload_n (i := 2) dX1_setTimes_8 rfl rfl ?_
  refine wp_iadd dX1_setTimes_9 ?_
  refine wp_iload_n (i := 3) dX1_setTimes_10 rfl rfl ?_
  refine wp_iast dX1_setTimes_11 hC_7 ⟨h.1, ?_⟩
  refine wp_nm (fun σ1 e2 => ?_)
  replace h := h.2 σ1 e2
  exact wp_return dX1_setTimes_12 rfl ⟨rfl, h⟩
set_option maxRecDepth 20000 in
set_option maxHeartbeats 2000000 in
theorem vb_People_join_38 {E : KE} {d : Nat} {x2 : Int32} {x3 : Int32} {σ : Sg} {K : Int32 → Sg → Prop} (h : ((nI 28) ≤ x3 → K x2 σ) ∧ (¬ (nI 28) ≤ x3 → CallN E shC d mX1_setTimes [.ref 2, .int x2, .int x3, .int (nI 1)] σ (fun σ1 => WP E shC mX1_join (d + 1) 38 [some (.ref 2), none, some (.int x2), some (.int (x3 + nI 1))] [] σ1 (k_qi K)))) : WP E shC mX1_join (d + 1) 38 [some (.ref 2), none, some (.int x2), some (.int x3)] [] σ (k_qi K) := by
  refine wp_iload_n (i := 3) dX1_join_38 rfl rfl ?_
  refine wp_bipush (v := nI 28) dX1_join_39 (by decide) ?_
  refine wp_icmpge (tgt := 57) dX1_join_41 (by decide) ⟨fun q => ?_, fun q => ?_⟩
  · replace h := h.1 q
    refine wp_iload_n (i := 2) dX1_join_57 rfl rfl ?_
    exact wp_ireturn dX1_join_58 rfl ⟨_, rfl, h⟩
  · replace h := h.2 q
    refine wp_aload_n (i := 0) dX1_join_44 rfl rfl ?_
    refine wp_iload_n (i := 2) dX1_join_45 rfl rfl ?_
    refine wp_iload_n (i := 3) dX1_join_46 rfl rfl ?_
    refine wp_iconst (v := nI 1) dX1_join_47 rfl ?_
    refine wp_callVN (vs := [.int x2, .int x3, .int (nI 1)]) (rest := []) dX1_join_48 mV_X1_setTimes lm_X1_39 hC_2 rfl rfl rfl (Nat.le_of_ble_eq_true rfl) (CallN.mono h (fun σ1 h => ?_))
    refine wp_iinc (i := 3) (v := x3 + nI 1) (Lo' := [some (.ref 2), none, some (.int x2), some (.int (x3 + nI 1))]) dX1_join_51 rfl (by rfl) (by decide) rfl rfl ?_
    refine wp_goto (tgt := 38) dX1_join_54 (by decide) ?_
    exact wp_mask [true, false, true, true] h
set_option maxRecDepth 20000 in
set_option maxHeartbeats 2000000 in
theorem vc_People_join {E : KE} {d : Nat} {x1 : Int32} {σ : Sg} {K : Int32 → Sg → Prop} (h : ∀ σ1, σ1 = k_put σ 2 (upd (σ 2) 5 ((σ 2 5) + (nI 1))) → CallN E shC d mX1_setKind [.ref 2, .int (σ 2 5), .int x1] σ1 (fun σ3 => vp_in (σ 2 5) 6 ∧ (∀ σ4, σ4 = k_put σ3 5 (upd (σ3 5) (σ 2 5).toNatClampNeg (nI 0)) → vp_in (σ 2 5) 6 ∧ (∀ σ6, σ6 = k_put σ4 6 (upd (σ4 6) (σ 2 5).toNatClampNeg (nI 100)) → WP E shC mX1_join (d + 1) 38 [some (.ref 2), none, some (.int (σ 2 5)), some (.int (nI 0))] [] σ6 (k_qi K))))) : CallI E shC (d + 1) mX1_join [.ref 2, .int x1] σ K := by
  refine wp_enter (Lo := [some (.ref 2), some (.int x1), none, none]) mp_X1_join (Nat.le_of_ble_eq_true rfl) rfl ?_
  refine wp_aload_n (i := 0) dX1_join_0 rfl rfl ?_
  refine wp_getI dX1_join_1 lf_X1_27 hC_2 rfl ?_
  refine wp_istore_n (i := 2) (Lo' := [some (.ref 2), some (.int x1), some (.int (σ 2 5)), none]) dX1_join_4 rfl (by decide) rfl rfl ?_
  refine wp_aload_n (i := 0) dX1_join_5 rfl rfl ?_
  refine wp_dup dX1_join_6 rfl ?_
  refine wp_getI dX1_join_7 lf_X1_27 hC_2 rfl ?_
  refine wp_iconst (v := nI 1) dX1_join_10 rfl ?_
  refine wp_iadd dX1_join_11 ?_
  refine wp_put dX1_join_12 lp_X1_27 hC_2 rfl ⟨⟨rfl, rfl⟩, ?_⟩
  refine wp_nm (fun σ1 e2 => ?_)
  replace h := h σ1 e2
  refine wp_aload_n (i := 0) dX1_join_15 rfl rfl ?_
  refine wp_iload_n (i := 2) dX1_join_16 rfl rfl ?_
  refine wp_iload_n (i := 1) dX1_join_17 rfl rfl ?_
  refine wp_callVN (vs := [.int (σ 2 5), .int x1]) (rest := []) dX1_join_18 mV_X1_setKind lm_X1_35 hC_2 rfl rfl rfl (Nat.le_of_ble_eq_true rfl) (CallN.mono h (fun σ3 h => ?_))
  refine wp_aload_n (i := 0) dX1_join_21 rfl rfl ?_
  refine wp_getR (t := 5) dX1_join_22 lf_X1_18 hC_2 rfl ?_
  refine wp_iload_n (i := 2) dX1_join_25 rfl rfl ?_
  refine wp_iconst (v := nI 0) dX1_join_26 rfl ?_
  refine wp_iast dX1_join_27 hC_5 ⟨h.1, ?_⟩
  refine wp_nm (fun σ4 e5 => ?_)
  replace h := h.2 σ4 e5
  refine wp_aload_n (i := 0) dX1_join_28 rfl rfl ?_
  refine wp_getR (t := 6) dX1_join_29 lf_X1_21 hC_2 rfl ?_
  refine wp_iload_n (i := 2) dX1_join_32 rfl rfl ?_
  refine wp_bipush (v := nI 100) dX1_join_33 (by decide) ?_
  refine wp_iast dX1_join_35 hC_6 ⟨h.1, ?_⟩
  refine wp_nm (fun σ6 e7 => ?_)
  replace h := h.2 σ6 e7
  refine wp_iconst (v := nI 0) dX1_join_36 rfl ?_
  refine wp_istore_n (i := 3) (Lo' := [some (.ref 2), some (.int x1), some (.int (σ 2 5)), some (.int (nI 0))]) dX1_join_37 rfl (by decide) rfl rfl ?_
  exact wp_mask [true, false, true, true] h
set_option maxRecDepth 20000 in
set_option maxHeartbeats 2000000 in
theorem vc_SD_error {E : KE} {d : Nat} {x1 : Int32} {σ : Sg} {K : Int32 → Sg → Prop} (h : vp_in x1 7 ∧ (vp_in x1 7 ∧ (∀ σ1, σ1 = k_put σ 63 (upd (σ 63) x1.toNatClampNeg ((σ 63 x1.toNatClampNeg) + (nI 1))) → K ((-1000000000 : Int32) - x1) σ1))) : CallI E shC d mX10_error [.ref 0, .int x1] σ K := by
  refine wp_enter (Lo := [some (.ref 0), some (.int x1)]) mp_X10_error (Nat.le_of_ble_eq_true rfl) rfl ?_
  refine wp_aload_n (i := 0) dX10_error_0 rfl rfl ?_
  refine wp_getR (t := 63) dX10_error_1 lf_X10_47 hC_0 rfl ?_
  refine wp_iload_n (i := 1) dX10_error_4 rfl rfl ?_
  refine wp_dup2 dX10_error_5 rfl rfl ?_
  refine wp_iald dX10_error_6 hC_63 ⟨h.1, ?_⟩
  replace h := h.2
  refine wp_iconst (v := nI 1) dX10_error_7 rfl ?_
  refine wp_iadd dX10_error_8 ?_
  refine wp_iast dX10_error_9 hC_63 ⟨h.1, ?_⟩
  refine wp_nm (fun σ1 e2 => ?_)
  replace h := h.2 σ1 e2
  refine wp_ldc lc_X10_55 dX10_error_10 ?_
  refine wp_iload_n (i := 1) dX10_error_12 rfl rfl ?_
  refine wp_isub dX10_error_13 ?_
  exact wp_ireturn dX10_error_14 rfl ⟨_, rfl, h⟩
set_option maxRecDepth 20000 in
set_option maxHeartbeats 2000000 in
theorem vc_SD_person {E : KE} {d : Nat} {x1 : Int32} {σ : Sg} {K : Int32 → Sg → Prop} (h : CallI E shC d mX0_isKindAndNumber [.int x1] σ (fun y2 σ1 => (¬ y2 = 0 → ((σ1 2 5) < (nI 6) → CallI E shC d mX1_join [.ref 2, .int x1] σ1 (fun y4 σ3 => K y4 σ3)) ∧ (¬ (σ1 2 5) < (nI 6) → CallI E shC d mX10_error [.ref 0, .int (nI 4)] σ1 (fun y6 σ5 => K y6 σ5))) ∧ (y2 = 0 → CallI E shC d mX10_error [.ref 0, .int (nI 1)] σ1 (fun y8 σ7 => K y8 σ7)))) : CallI E shC (d + 1) mX10_person [.ref 0, .int x1] σ K := by
  refine wp_enter (Lo := [some (.ref 0), some (.int x1)]) mp_X10_person (Nat.le_of_ble_eq_true rfl) rfl ?_
  refine wp_iload_n (i := 1) dX10_person_0 rfl rfl ?_
  refine wp_callSI (vs := [.int x1]) (rest := []) dX10_person_1 mS_X0_isKindAndNumber lm_X10_56 rfl rfl (Nat.le_of_ble_eq_true rfl) (CallI.mono h (fun y2 σ1 h => ?_))
  refine wp_ifne (tgt := 13) dX10_person_4 (by decide) ⟨fun q => ?_, fun q => ?_⟩
  · replace h := h.1 q
    refine wp_aload_n (i := 0) dX10_person_13 rfl rfl ?_
    refine wp_getR (t := 1) dX10_person_14 lf_X10_10 hC_0 rfl ?_
    refine wp_getR (t := 2) dX10_person_17 lf_X10_66 hC_1 rfl ?_
    refine wp_getI dX10_person_20 lf_X10_70 hC_2 rfl ?_
    refine wp_bipush (v := nI 6) dX10_person_23 (by decide) ?_
    refine wp_icmplt (tgt := 34) dX10_person_25 (by decide) ⟨fun q => ?_, fun q => ?_⟩
    · replace h := h.1 q
      refine wp_aload_n (i := 0) dX10_person_34 rfl rfl ?_
      refine wp_getR (t := 1) dX10_person_35 lf_X10_10 hC_0 rfl ?_
      refine wp_getR (t := 2) dX10_person_38 lf_X10_66 hC_1 rfl ?_
      refine wp_iload_n (i := 1) dX10_person_41 rfl rfl ?_
      refine wp_callVI (vs := [.int x1]) (rest := []) dX10_person_42 mV_X1_join lm_X10_75 hC_2 rfl rfl rfl (Nat.le_of_ble_eq_true rfl) (CallI.mono h (fun y4 σ3 h => ?_))
      exact wp_ireturn dX10_person_45 rfl ⟨_, rfl, h⟩
    · replace h := h.2 q
      refine wp_aload_n (i := 0) dX10_person_28 rfl rfl ?_
      refine wp_iconst (v := nI 4) dX10_person_29 rfl ?_
      refine wp_callVI (vs := [.int (nI 4)]) (rest := []) dX10_person_30 mV_X10_error lm_X10_62 hC_0 rfl rfl rfl (Nat.le_of_ble_eq_true rfl) (CallI.mono h (fun y6 σ5 h => ?_))
      exact wp_ireturn dX10_person_33 rfl ⟨_, rfl, h⟩
  · replace h := h.2 q
    refine wp_aload_n (i := 0) dX10_person_7 rfl rfl ?_
    refine wp_iconst (v := nI 1) dX10_person_8 rfl ?_
    refine wp_callVI (vs := [.int (nI 1)]) (rest := []) dX10_person_9 mV_X10_error lm_X10_62 hC_0 rfl rfl rfl (Nat.le_of_ble_eq_true rfl) (CallI.mono h (fun y8 σ7 h => ?_))
    exact wp_ireturn dX10_person_12 rfl ⟨_, rfl, h⟩
set_option maxRecDepth 20000 in
set_option maxHeartbeats 2000000 in
theorem vc_People_knows {E : KE} {d : Nat} {x1 : Int32} {σ : Sg} {K : Int32 → Sg → Prop} (h : (x1 < 0 → K (nI 0) σ) ∧ (¬ x1 < 0 → ((σ 2 5) ≤ x1 → K (nI 0) σ) ∧ (¬ (σ 2 5) ≤ x1 → K (nI 1) σ))) : CallI E shC d mX1_knows [.ref 2, .int x1] σ K := by
  refine wp_enter (Lo := [some (.ref 2), some (.int x1)]) mp_X1_knows (Nat.le_of_ble_eq_true rfl) rfl ?_
  refine wp_iload_n (i := 1) dX1_knows_0 rfl rfl ?_
  refine wp_iflt (tgt := 16) dX1_knows_1 (by decide) ⟨fun q => ?_, fun q => ?_⟩
  · replace h := h.1 q
    refine wp_iconst (v := nI 0) dX1_knows_16 rfl ?_
    exact wp_zreturn dX1_knows_17 rfl ⟨rfl, _, rfl, h⟩
  · replace h := h.2 q
    refine wp_iload_n (i := 1) dX1_knows_4 rfl rfl ?_
    refine wp_aload_n (i := 0) dX1_knows_5 rfl rfl ?_
    refine wp_getI dX1_knows_6 lf_X1_27 hC_2 rfl ?_
    refine wp_icmpge (tgt := 16) dX1_knows_9 (by decide) ⟨fun q => ?_, fun q => ?_⟩
    · replace h := h.1 q
      refine wp_iconst (v := nI 0) dX1_knows_16 rfl ?_
      exact wp_zreturn dX1_knows_17 rfl ⟨rfl, _, rfl, h⟩
    · replace h := h.2 q
      refine wp_iconst (v := nI 1) dX1_knows_12 rfl ?_
      refine wp_goto (tgt := 17) dX1_knows_13 (by decide) ?_
      exact wp_zreturn dX1_knows_17 rfl ⟨rfl, _, rfl, h⟩
set_option maxRecDepth 20000 in
set_option maxHeartbeats 2000000 in
theorem vc_World_dayIn {E : KE} {d : Nat} {x1 : Int32} {σ : Sg} {K : Int32 → Sg → Prop} (h : K (((σ 1 6) + x1) - ((σ 1 6) + x1) / (nI 28) * (nI 28)) σ) : CallI E shC d mX9_dayIn [.ref 1, .int x1] σ K := by
  refine wp_enter (Lo := [some (.ref 1), some (.int x1)]) mp_X9_dayIn (Nat.le_of_ble_eq_true rfl) rfl ?_
  refine wp_aload_n (i := 0) dX9_dayIn_0 rfl rfl ?_
  refine wp_getI dX9_dayIn_1 lf_X9_47 hC_1 rfl ?_
  refine wp_iload_n (i := 1) dX9_dayIn_4 rfl rfl ?_
  refine wp_iadd dX9_dayIn_5 ?_
  refine wp_bipush (v := nI 28) dX9_dayIn_6 (by decide) ?_
  refine wp_irem dX9_dayIn_8 ⟨by decide, ?_⟩
  exact wp_ireturn dX9_dayIn_9 rfl ⟨_, rfl, h⟩
set_option maxRecDepth 20000 in
set_option maxHeartbeats 2000000 in
theorem vc_People_timesOf {E : KE} {d : Nat} {x1 : Int32} {x2 : Int32} {σ : Sg} {K : Int32 → Sg → Prop} (h : vp_in ((x1 * (nI 28)) + x2) 168 ∧ (K (σ 7 ((x1 * (nI 28)) + x2).toNatClampNeg) σ)) : CallI E shC d mX1_timesOf [.ref 2, .int x1, .int x2] σ K := by
  refine wp_enter (Lo := [some (.ref 2), some (.int x1), some (.int x2)]) mp_X1_timesOf (Nat.le_of_ble_eq_true rfl) rfl ?_
  refine wp_aload_n (i := 0) dX1_timesOf_0 rfl rfl ?_
  refine wp_getR (t := 7) dX1_timesOf_1 lf_X1_24 hC_2 rfl ?_
  refine wp_iload_n (i := 1) dX1_timesOf_4 rfl rfl ?_
  refine wp_bipush (v := nI 28) dX1_timesOf_5 (by decide) ?_
  refine wp_imul dX1_timesOf_7 ?_
  refine wp_iload_n (i := 2) dX1_timesOf_8 rfl rfl ?_
  refine wp_iadd dX1_timesOf_9 ?_
  refine wp_iald dX1_timesOf_10 hC_7 ⟨h.1, ?_⟩
  replace h := h.2
  exact wp_ireturn dX1_timesOf_11 rfl ⟨_, rfl, h⟩
set_option maxRecDepth 20000 in
set_option maxHeartbeats 2000000 in
theorem vc_People_livesOf {E : KE} {d : Nat} {x1 : Int32} {x2 : Int32} {σ : Sg} {K : Int32 → Sg → Prop} (h : vp_in x1 6 ∧ (vp_in x1 6 ∧ (CallI E shC d mX1_timesOf [.ref 2, .int x1, .int x2] σ (fun y2 σ1 => CallI E shC d mX0_lives [.int (σ 3 x1.toNatClampNeg), .int (σ 4 x1.toNatClampNeg), .int y2, .int (x2 - x2 / (nI 7) * (nI 7))] σ1 (fun y4 σ3 => K y4 σ3))))) : CallI E shC (d + 1) mX1_livesOf [.ref 2, .int x1, .int x2] σ K := by
  refine wp_enter (Lo := [some (.ref 2), some (.int x1), some (.int x2)]) mp_X1_livesOf (Nat.le_of_ble_eq_true rfl) rfl ?_
  refine wp_aload_n (i := 0) dX1_livesOf_0 rfl rfl ?_
  refine wp_getR (t := 3) dX1_livesOf_1 lf_X1_9 hC_2 rfl ?_
  refine wp_iload_n (i := 1) dX1_livesOf_4 rfl rfl ?_
  refine wp_iald dX1_livesOf_5 hC_3 ⟨h.1, ?_⟩
  replace h := h.2
  refine wp_aload_n (i := 0) dX1_livesOf_6 rfl rfl ?_
  refine wp_getR (t := 4) dX1_livesOf_7 lf_X1_15 hC_2 rfl ?_
  refine wp_iload_n (i := 1) dX1_livesOf_10 rfl rfl ?_
  refine wp_iald dX1_livesOf_11 hC_4 ⟨h.1, ?_⟩
  replace h := h.2
  refine wp_aload_n (i := 0) dX1_livesOf_12 rfl rfl ?_
  refine wp_iload_n (i := 1) dX1_livesOf_13 rfl rfl ?_
  refine wp_iload_n (i := 2) dX1_livesOf_14 rfl rfl ?_
  refine wp_callVI (vs := [.int x1, .int x2]) (rest := [.int (σ 4 x1.toNatClampNeg), .int (σ 3 x1.toNatClampNeg)]) dX1_livesOf_15 mV_X1_timesOf lm_X1_43 hC_2 rfl rfl rfl (Nat.le_of_ble_eq_true rfl) (CallI.mono h (fun y2 σ1 h => ?_))
  refine wp_iload_n (i := 2) dX1_livesOf_18 rfl rfl ?_
  refine wp_bipush (v := nI 7) dX1_livesOf_19 (by decide) ?_
  refine wp_irem dX1_livesOf_21 ⟨by decide, ?_⟩
  refine wp_callSI (vs := [.int (σ 3 x1.toNatClampNeg), .int (σ 4 x1.toNatClampNeg), .int y2, .int (x2 - x2 / (nI 7) * (nI 7))]) (rest := []) dX1_livesOf_22 mS_X0_lives lm_X1_47 rfl rfl (Nat.le_of_ble_eq_true rfl) (CallI.mono h (fun y4 σ3 h => ?_))
  exact wp_ireturn dX1_livesOf_25 rfl ⟨_, rfl, h⟩
set_option maxRecDepth 20000 in
set_option maxHeartbeats 2000000 in
theorem vc_SD_personIs {E : KE} {d : Nat} {x1 : Int32} {x2 : Int32} {σ : Sg} {K : Int32 → Sg → Prop} (h : CallI E shC d mX1_knows [.ref 2, .int x1] σ (fun y2 σ1 => (y2 = 0 → CallI E shC d mX10_error [.ref 0, .int (nI 1)] σ1 (fun y4 σ3 => K y4 σ3)) ∧ (¬ y2 = 0 → CallI E shC d mX10_isWithin [.int x2, .int (nI 0), .int (nI 4)] σ1 (fun y6 σ5 => (¬ y6 = 0 → (x2 = nI 0 → vp_in x1 6 ∧ (K (σ5 3 x1.toNatClampNeg) σ5)) ∧ (x2 = nI 1 → vp_in x1 6 ∧ (K (σ5 4 x1.toNatClampNeg) σ5)) ∧ (x2 = nI 2 → vp_in x1 6 ∧ (K (σ5 5 x1.toNatClampNeg) σ5)) ∧ (x2 = nI 3 → vp_in x1 6 ∧ (K (σ5 6 x1.toNatClampNeg) σ5)) ∧ (¬ x2 = nI 0 → ¬ x2 = nI 1 → ¬ x2 = nI 2 → ¬ x2 = nI 3 → CallI E shC d mX9_dayIn [.ref 1, .int (nI 0)] σ5 (fun y8 σ7 => CallI E shC d mX1_livesOf [.ref 2, .int x1, .int y8] σ7 (fun y10 σ9 => K y10 σ9)))) ∧ (y6 = 0 → CallI E shC d mX10_error [.ref 0, .int (nI 1)] σ5 (fun y12 σ11 => K y12 σ11)))))) : CallI E shC (d + 1) mX10_personIs [.ref 0, .int x1, .int x2] σ K := by
  refine wp_enter (Lo := [some (.ref 0), some (.int x1), some (.int x2), none]) mp_X10_personIs (Nat.le_of_ble_eq_true rfl) rfl ?_
  refine wp_aload_n (i := 0) dX10_personIs_0 rfl rfl ?_
  refine wp_getR (t := 1) dX10_personIs_1 lf_X10_10 hC_0 rfl ?_
  refine wp_getR (t := 2) dX10_personIs_4 lf_X10_66 hC_1 rfl ?_
  refine wp_astore_n (i := 3) (Lo' := [some (.ref 0), some (.int x1), some (.int x2), some (.ref 2)]) dX10_personIs_7 rfl (by decide) rfl rfl ?_
  refine wp_aload_n (i := 3) dX10_personIs_8 rfl rfl ?_
  refine wp_iload_n (i := 1) dX10_personIs_9 rfl rfl ?_
  refine wp_callVI (vs := [.int x1]) (rest := []) dX10_personIs_10 mV_X1_knows lm_X10_78 hC_2 rfl rfl rfl (Nat.le_of_ble_eq_true rfl) (CallI.mono h (fun y2 σ1 h => ?_))
  refine wp_ifeq (tgt := 25) dX10_personIs_13 (by decide) ⟨fun q => ?_, fun q => ?_⟩
  · replace h := h.1 q
    refine wp_aload_n (i := 0) dX10_personIs_25 rfl rfl ?_
    refine wp_iconst (v := nI 1) dX10_personIs_26 rfl ?_
    refine wp_callVI (vs := [.int (nI 1)]) (rest := []) dX10_personIs_27 mV_X10_error lm_X10_62 hC_0 rfl rfl rfl (Nat.le_of_ble_eq_true rfl) (CallI.mono h (fun y4 σ3 h => ?_))
    exact wp_ireturn dX10_personIs_30 rfl ⟨_, rfl, h⟩
  · replace h := h.2 q
    refine wp_iload_n (i := 2) dX10_personIs_16 rfl rfl ?_
    refine wp_iconst (v := nI 0) dX10_personIs_17 rfl ?_
    refine wp_iconst (v := nI 4) dX10_personIs_18 rfl ?_
    refine wp_callSI (vs := [.int x2, .int (nI 0), .int (nI 4)]) (rest := []) dX10_personIs_19 mS_X10_isWithin lm_X10_81 rfl rfl (Nat.le_of_ble_eq_true rfl) (CallI.mono h (fun y6 σ5 h => ?_))
    refine wp_ifne (tgt := 31) dX10_personIs_22 (by decide) ⟨fun q => ?_, fun q => ?_⟩
    · replace h := h.1 q
      refine wp_iload_n (i := 2) dX10_personIs_31 rfl rfl ?_
      rcases Classical.em (x2 = nI 0) with q0 | q0
      · replace h := h.1 q0
        refine wp_tswIn (off := 32) (tgt := 64) dX10_personIs_32 (by rw [q0]; decide) (by rw [q0]; decide) (by rw [q0]; rfl) (by decide) ?_
        refine wp_aload_n (i := 3) dX10_personIs_64 rfl rfl ?_
        refine wp_getR (t := 3) dX10_personIs_65 lf_X10_85 hC_2 rfl ?_
        refine wp_iload_n (i := 1) dX10_personIs_68 rfl rfl ?_
        refine wp_iald dX10_personIs_69 hC_3 ⟨h.1, ?_⟩
        replace h := h.2
        exact wp_ireturn dX10_personIs_70 rfl ⟨_, rfl, h⟩
      rcases Classical.em (x2 = nI 1) with q1 | q1
      · replace h := h.2.1 q1
        refine wp_tswIn (off := 39) (tgt := 71) dX10_personIs_32 (by rw [q1]; decide) (by rw [q1]; decide) (by rw [q1]; rfl) (by decide) ?_
        refine wp_aload_n (i := 3) dX10_personIs_71 rfl rfl ?_
        refine wp_getR (t := 4) dX10_personIs_72 lf_X10_88 hC_2 rfl ?_
        refine wp_iload_n (i := 1) dX10_personIs_75 rfl rfl ?_
        refine wp_iald dX10_personIs_76 hC_4 ⟨h.1, ?_⟩
        replace h := h.2
        exact wp_ireturn dX10_personIs_77 rfl ⟨_, rfl, h⟩
      rcases Classical.em (x2 = nI 2) with q2 | q2
      · replace h := h.2.2.1 q2
        refine wp_tswIn (off := 46) (tgt := 78) dX10_personIs_32 (by rw [q2]; decide) (by rw [q2]; decide) (by rw [q2]; rfl) (by decide) ?_
        refine wp_aload_n (i := 3) dX10_personIs_78 rfl rfl ?_
        refine wp_getR (t := 5) dX10_personIs_79 lf_X10_91 hC_2 rfl ?_
        refine wp_iload_n (i := 1) dX10_personIs_82 rfl rfl ?_
        refine wp_iald dX10_personIs_83 hC_5 ⟨h.1, ?_⟩
        replace h := h.2
        exact wp_ireturn dX10_personIs_84 rfl ⟨_, rfl, h⟩
      rcases Classical.em (x2 = nI 3) with q3 | q3
      · replace h := h.2.2.2.1 q3
        refine wp_tswIn (off := 53) (tgt := 85) dX10_personIs_32 (by rw [q3]; decide) (by rw [q3]; decide) (by rw [q3]; rfl) (by decide) ?_
        refine wp_aload_n (i := 3) dX10_personIs_85 rfl rfl ?_
        refine wp_getR (t := 6) dX10_personIs_86 lf_X10_94 hC_2 rfl ?_
        refine wp_iload_n (i := 1) dX10_personIs_89 rfl rfl ?_
        refine wp_iald dX10_personIs_90 hC_6 ⟨h.1, ?_⟩
        replace h := h.2
        exact wp_ireturn dX10_personIs_91 rfl ⟨_, rfl, h⟩
      have nq0 := lv_neT q0 (show ((nI 0) : Int32).toInt = 0 by decide)
      have nq1 := lv_neT q1 (show ((nI 1) : Int32).toInt = 1 by decide)
      have nq2 := lv_neT q2 (show ((nI 2) : Int32).toInt = 2 by decide)
      have nq3 := lv_neT q3 (show ((nI 3) : Int32).toInt = 3 by decide)
      replace h := h.2.2.2.2 q0 q1 q2 q3
      refine wp_tswOut (tgt := 92) dX10_personIs_32 (by omega) (by decide) ?_
      refine wp_aload_n (i := 3) dX10_personIs_92 rfl rfl ?_
      refine wp_iload_n (i := 1) dX10_personIs_93 rfl rfl ?_
      refine wp_aload_n (i := 0) dX10_personIs_94 rfl rfl ?_
      refine wp_getR (t := 1) dX10_personIs_95 lf_X10_10 hC_0 rfl ?_
      refine wp_iconst (v := nI 0) dX10_personIs_98 rfl ?_
      refine wp_callVI (vs := [.int (nI 0)]) (rest := [.int x1, .ref 2]) dX10_personIs_99 mV_X9_dayIn lm_X10_97 hC_1 rfl rfl rfl (Nat.le_of_ble_eq_true rfl) (CallI.mono h (fun y8 σ7 h => ?_))
      refine wp_callVI (vs := [.int x1, .int y8]) (rest := []) dX10_personIs_102 mV_X1_livesOf lm_X10_100 hC_2 rfl rfl rfl (Nat.le_of_ble_eq_true rfl) (CallI.mono h (fun y10 σ9 h => ?_))
      exact wp_ireturn dX10_personIs_105 rfl ⟨_, rfl, h⟩
    · replace h := h.2 q
      refine wp_aload_n (i := 0) dX10_personIs_25 rfl rfl ?_
      refine wp_iconst (v := nI 1) dX10_personIs_26 rfl ?_
      refine wp_callVI (vs := [.int (nI 1)]) (rest := []) dX10_personIs_27 mV_X10_error lm_X10_62 hC_0 rfl rfl rfl (Nat.le_of_ble_eq_true rfl) (CallI.mono h (fun y12 σ11 h => ?_))
      exact wp_ireturn dX10_personIs_30 rfl ⟨_, rfl, h⟩
set_option maxRecDepth 20000 in
set_option maxHeartbeats 2000000 in
theorem vc_SD_become {E : KE} {d : Nat} {x1 : Int32} {x2 : Int32} {σ : Sg} {K : Int32 → Sg → Prop} (h : CallI E shC d mX1_knows [.ref 2, .int x1] σ (fun y2 σ1 => (y2 = 0 → CallI E shC d mX10_error [.ref 0, .int (nI 1)] σ1 (fun y4 σ3 => K y4 σ3)) ∧ (¬ y2 = 0 → CallI E shC d mX0_isKindAndNumber [.int x2] σ1 (fun y6 σ5 => (¬ y6 = 0 → vp_in x1 6 ∧ (CallN E shC d mX1_setKind [.ref 2, .int x1, .int x2] σ5 (fun σ7 => K (σ5 3 x1.toNatClampNeg) σ7))) ∧ (y6 = 0 → CallI E shC d mX10_error [.ref 0, .int (nI 1)] σ5 (fun y9 σ8 => K y9 σ8)))))) : CallI E shC (d + 1) mX10_become [.ref 0, .int x1, .int x2] σ K := by
  refine wp_enter (Lo := [some (.ref 0), some (.int x1), some (.int x2), none]) mp_X10_become (Nat.le_of_ble_eq_true rfl) rfl ?_
  refine wp_aload_n (i := 0) dX10_become_0 rfl rfl ?_
  refine wp_getR (t := 1) dX10_become_1 lf_X10_10 hC_0 rfl ?_
  refine wp_getR (t := 2) dX10_become_4 lf_X10_66 hC_1 rfl ?_
  refine wp_iload_n (i := 1) dX10_become_7 rfl rfl ?_
  refine wp_callVI (vs := [.int x1]) (rest := []) dX10_become_8 mV_X1_knows lm_X10_78 hC_2 rfl rfl rfl (Nat.le_of_ble_eq_true rfl) (CallI.mono h (fun y2 σ1 h => ?_))
  refine wp_ifeq (tgt := 21) dX10_become_11 (by decide) ⟨fun q => ?_, fun q => ?_⟩
  · replace h := h.1 q
    refine wp_aload_n (i := 0) dX10_become_21 rfl rfl ?_
    refine wp_iconst (v := nI 1) dX10_become_22 rfl ?_
    refine wp_callVI (vs := [.int (nI 1)]) (rest := []) dX10_become_23 mV_X10_error lm_X10_62 hC_0 rfl rfl rfl (Nat.le_of_ble_eq_true rfl) (CallI.mono h (fun y4 σ3 h => ?_))
    exact wp_ireturn dX10_become_26 rfl ⟨_, rfl, h⟩
  · replace h := h.2 q
    refine wp_iload_n (i := 2) dX10_become_14 rfl rfl ?_
    refine wp_callSI (vs := [.int x2]) (rest := []) dX10_become_15 mS_X0_isKindAndNumber lm_X10_56 rfl rfl (Nat.le_of_ble_eq_true rfl) (CallI.mono h (fun y6 σ5 h => ?_))
    refine wp_ifne (tgt := 27) dX10_become_18 (by decide) ⟨fun q => ?_, fun q => ?_⟩
    · replace h := h.1 q
      refine wp_aload_n (i := 0) dX10_become_27 rfl rfl ?_
      refine wp_getR (t := 1) dX10_become_28 lf_X10_10 hC_0 rfl ?_
      refine wp_getR (t := 2) dX10_become_31 lf_X10_66 hC_1 rfl ?_
      refine wp_getR (t := 3) dX10_become_34 lf_X10_85 hC_2 rfl ?_
      refine wp_iload_n (i := 1) dX10_become_37 rfl rfl ?_
      refine wp_iald dX10_become_38 hC_3 ⟨h.1, ?_⟩
      replace h := h.2
      refine wp_istore_n (i := 3) (Lo' := [some (.ref 0), some (.int x1), some (.int x2), some (.int (σ5 3 x1.toNatClampNeg))]) dX10_become_39 rfl (by decide) rfl rfl ?_
      refine wp_aload_n (i := 0) dX10_become_40 rfl rfl ?_
      refine wp_getR (t := 1) dX10_become_41 lf_X10_10 hC_0 rfl ?_
      refine wp_getR (t := 2) dX10_become_44 lf_X10_66 hC_1 rfl ?_
      refine wp_iload_n (i := 1) dX10_become_47 rfl rfl ?_
      refine wp_iload_n (i := 2) dX10_become_48 rfl rfl ?_
      refine wp_callVN (vs := [.int x1, .int x2]) (rest := []) dX10_become_49 mV_X1_setKind lm_X10_104 hC_2 rfl rfl rfl (Nat.le_of_ble_eq_true rfl) (CallN.mono h (fun σ7 h => ?_))
      refine wp_iload_n (i := 3) dX10_become_52 rfl rfl ?_
      exact wp_ireturn dX10_become_53 rfl ⟨_, rfl, h⟩
    · replace h := h.2 q
      refine wp_aload_n (i := 0) dX10_become_21 rfl rfl ?_
      refine wp_iconst (v := nI 1) dX10_become_22 rfl ?_
      refine wp_callVI (vs := [.int (nI 1)]) (rest := []) dX10_become_23 mV_X10_error lm_X10_62 hC_0 rfl rfl rfl (Nat.le_of_ble_eq_true rfl) (CallI.mono h (fun y9 σ8 h => ?_))
      exact wp_ireturn dX10_become_26 rfl ⟨_, rfl, h⟩
set_option maxRecDepth 20000 in
set_option maxHeartbeats 2000000 in
theorem vc_SD_as {E : KE} {d : Nat} {x1 : Int32} {x2 : Int32} {σ : Sg} {K : Int32 → Sg → Prop} (h : CallI E shC d mX1_knows [.ref 2, .int x1] σ (fun y2 σ1 => (y2 = 0 → CallI E shC d mX10_error [.ref 0, .int (nI 1)] σ1 (fun y4 σ3 => K y4 σ3)) ∧ (¬ y2 = 0 → CallI E shC d mX0_isKind [.int x2] σ1 (fun y6 σ5 => (¬ y6 = 0 → vp_in x1 6 ∧ (CallI E shC d mX0_isUnder [.int (σ5 3 x1.toNatClampNeg), .int x2] σ5 (fun y8 σ7 => (¬ y8 = 0 → vp_in x1 6 ∧ (K (σ7 4 x1.toNatClampNeg) σ7)) ∧ (y8 = 0 → CallI E shC d mX10_error [.ref 0, .int (nI 5)] σ7 (fun y10 σ9 => K y10 σ9))))) ∧ (y6 = 0 → CallI E shC d mX10_error [.ref 0, .int (nI 1)] σ5 (fun y12 σ11 => K y12 σ11)))))) : CallI E shC (d + 1) mX10_as [.ref 0, .int x1, .int x2] σ K := by
  refine wp_enter (Lo := [some (.ref 0), some (.int x1), some (.int x2)]) mp_X10_as (Nat.le_of_ble_eq_true rfl) rfl ?_
  refine wp_aload_n (i := 0) dX10_as_0 rfl rfl ?_
  refine wp_getR (t := 1) dX10_as_1 lf_X10_10 hC_0 rfl ?_
  refine wp_getR (t := 2) dX10_as_4 lf_X10_66 hC_1 rfl ?_
  refine wp_iload_n (i := 1) dX10_as_7 rfl rfl ?_
  refine wp_callVI (vs := [.int x1]) (rest := []) dX10_as_8 mV_X1_knows lm_X10_78 hC_2 rfl rfl rfl (Nat.le_of_ble_eq_true rfl) (CallI.mono h (fun y2 σ1 h => ?_))
  refine wp_ifeq (tgt := 21) dX10_as_11 (by decide) ⟨fun q => ?_, fun q => ?_⟩
  · replace h := h.1 q
    refine wp_aload_n (i := 0) dX10_as_21 rfl rfl ?_
    refine wp_iconst (v := nI 1) dX10_as_22 rfl ?_
    refine wp_callVI (vs := [.int (nI 1)]) (rest := []) dX10_as_23 mV_X10_error lm_X10_62 hC_0 rfl rfl rfl (Nat.le_of_ble_eq_true rfl) (CallI.mono h (fun y4 σ3 h => ?_))
    exact wp_ireturn dX10_as_26 rfl ⟨_, rfl, h⟩
  · replace h := h.2 q
    refine wp_iload_n (i := 2) dX10_as_14 rfl rfl ?_
    refine wp_callSI (vs := [.int x2]) (rest := []) dX10_as_15 mS_X0_isKind lm_X10_108 rfl rfl (Nat.le_of_ble_eq_true rfl) (CallI.mono h (fun y6 σ5 h => ?_))
    refine wp_ifne (tgt := 27) dX10_as_18 (by decide) ⟨fun q => ?_, fun q => ?_⟩
    · replace h := h.1 q
      refine wp_aload_n (i := 0) dX10_as_27 rfl rfl ?_
      refine wp_getR (t := 1) dX10_as_28 lf_X10_10 hC_0 rfl ?_
      refine wp_getR (t := 2) dX10_as_31 lf_X10_66 hC_1 rfl ?_
      refine wp_getR (t := 3) dX10_as_34 lf_X10_85 hC_2 rfl ?_
      refine wp_iload_n (i := 1) dX10_as_37 rfl rfl ?_
      refine wp_iald dX10_as_38 hC_3 ⟨h.1, ?_⟩
      replace h := h.2
      refine wp_iload_n (i := 2) dX10_as_39 rfl rfl ?_
      refine wp_callSI (vs := [.int (σ5 3 x1.toNatClampNeg), .int x2]) (rest := []) dX10_as_40 mS_X0_isUnder lm_X10_111 rfl rfl (Nat.le_of_ble_eq_true rfl) (CallI.mono h (fun y8 σ7 h => ?_))
      refine wp_ifne (tgt := 52) dX10_as_43 (by decide) ⟨fun q => ?_, fun q => ?_⟩
      · replace h := h.1 q
        refine wp_aload_n (i := 0) dX10_as_52 rfl rfl ?_
        refine wp_getR (t := 1) dX10_as_53 lf_X10_10 hC_0 rfl ?_
        refine wp_getR (t := 2) dX10_as_56 lf_X10_66 hC_1 rfl ?_
        refine wp_getR (t := 4) dX10_as_59 lf_X10_88 hC_2 rfl ?_
        refine wp_iload_n (i := 1) dX10_as_62 rfl rfl ?_
        refine wp_iald dX10_as_63 hC_4 ⟨h.1, ?_⟩
        replace h := h.2
        exact wp_ireturn dX10_as_64 rfl ⟨_, rfl, h⟩
      · replace h := h.2 q
        refine wp_aload_n (i := 0) dX10_as_46 rfl rfl ?_
        refine wp_iconst (v := nI 5) dX10_as_47 rfl ?_
        refine wp_callVI (vs := [.int (nI 5)]) (rest := []) dX10_as_48 mV_X10_error lm_X10_62 hC_0 rfl rfl rfl (Nat.le_of_ble_eq_true rfl) (CallI.mono h (fun y10 σ9 h => ?_))
        exact wp_ireturn dX10_as_51 rfl ⟨_, rfl, h⟩
    · replace h := h.2 q
      refine wp_aload_n (i := 0) dX10_as_21 rfl rfl ?_
      refine wp_iconst (v := nI 1) dX10_as_22 rfl ?_
      refine wp_callVI (vs := [.int (nI 1)]) (rest := []) dX10_as_23 mV_X10_error lm_X10_62 hC_0 rfl rfl rfl (Nat.le_of_ble_eq_true rfl) (CallI.mono h (fun y12 σ11 h => ?_))
      exact wp_ireturn dX10_as_26 rfl ⟨_, rfl, h⟩
set_option maxRecDepth 20000 in
set_option maxHeartbeats 2000000 in
theorem vc_SD_change {E : KE} {d : Nat} {x1 : Int32} {x2 : Int32} {x3 : Int32} {σ : Sg} {K : Int32 → Sg → Prop} (h : CallI E shC d mX1_knows [.ref 2, .int x1] σ (fun y2 σ1 => (y2 = 0 → CallI E shC d mX10_error [.ref 0, .int (nI 1)] σ1 (fun y4 σ3 => K y4 σ3)) ∧ (¬ y2 = 0 → CallI E shC d mX10_isWithin [.int x2, .int (nI 0), .int (nI 1)] σ1 (fun y6 σ5 => (y6 = 0 → CallI E shC d mX10_error [.ref 0, .int (nI 1)] σ5 (fun y8 σ7 => K y8 σ7)) ∧ (¬ y6 = 0 → CallI E shC d mX10_isWithin [.int x3, .int (nI 0), .int (nI 9999)] σ5 (fun y10 σ9 => (¬ y10 = 0 → (¬ x2 = 0 → vp_in x1 6 ∧ (vp_in x1 6 ∧ (∀ σ11, σ11 = k_put σ9 6 (upd (σ9 6) x1.toNatClampNeg x3) → K (σ9 6 x1.toNatClampNeg) σ11))) ∧ (x2 = 0 → vp_in x1 6 ∧ (vp_in x1 6 ∧ (∀ σ13, σ13 = k_put σ9 5 (upd (σ9 5) x1.toNatClampNeg x3) → K (σ9 5 x1.toNatClampNeg) σ13)))) ∧ (y10 = 0 → CallI E shC d mX10_error [.ref 0, .int (nI 1)] σ9 (fun y16 σ15 => K y16 σ15)))))))) : CallI E shC (d + 1) mX10_change [.ref 0, .int x1, .int x2, .int x3] σ K := by
  refine wp_enter (Lo := [some (.ref 0), some (.int x1), some (.int x2), some (.int x3), none, none]) mp_X10_change (Nat.le_of_ble_eq_true rfl) rfl ?_
  refine wp_aload_n (i := 0) dX10_change_0 rfl rfl ?_
  refine wp_getR (t := 1) dX10_change_1 lf_X10_10 hC_0 rfl ?_
  refine wp_getR (t := 2) dX10_change_4 lf_X10_66 hC_1 rfl ?_
  refine wp_iload_n (i := 1) dX10_change_7 rfl rfl ?_
  refine wp_callVI (vs := [.int x1]) (rest := []) dX10_change_8 mV_X1_knows lm_X10_78 hC_2 rfl rfl rfl (Nat.le_of_ble_eq_true rfl) (CallI.mono h (fun y2 σ1 h => ?_))
  refine wp_ifeq (tgt := 34) dX10_change_11 (by decide) ⟨fun q => ?_, fun q => ?_⟩
  · replace h := h.1 q
    refine wp_aload_n (i := 0) dX10_change_34 rfl rfl ?_
    refine wp_iconst (v := nI 1) dX10_change_35 rfl ?_
    refine wp_callVI (vs := [.int (nI 1)]) (rest := []) dX10_change_36 mV_X10_error lm_X10_62 hC_0 rfl rfl rfl (Nat.le_of_ble_eq_true rfl) (CallI.mono h (fun y4 σ3 h => ?_))
    exact wp_ireturn dX10_change_39 rfl ⟨_, rfl, h⟩
  · replace h := h.2 q
    refine wp_iload_n (i := 2) dX10_change_14 rfl rfl ?_
    refine wp_iconst (v := nI 0) dX10_change_15 rfl ?_
    refine wp_iconst (v := nI 1) dX10_change_16 rfl ?_
    refine wp_callSI (vs := [.int x2, .int (nI 0), .int (nI 1)]) (rest := []) dX10_change_17 mS_X10_isWithin lm_X10_81 rfl rfl (Nat.le_of_ble_eq_true rfl) (CallI.mono h (fun y6 σ5 h => ?_))
    refine wp_ifeq (tgt := 34) dX10_change_20 (by decide) ⟨fun q => ?_, fun q => ?_⟩
    · replace h := h.1 q
      refine wp_aload_n (i := 0) dX10_change_34 rfl rfl ?_
      refine wp_iconst (v := nI 1) dX10_change_35 rfl ?_
      refine wp_callVI (vs := [.int (nI 1)]) (rest := []) dX10_change_36 mV_X10_error lm_X10_62 hC_0 rfl rfl rfl (Nat.le_of_ble_eq_true rfl) (CallI.mono h (fun y8 σ7 h => ?_))
      exact wp_ireturn dX10_change_39 rfl ⟨_, rfl, h⟩
    · replace h := h.2 q
      refine wp_iload_n (i := 3) dX10_change_23 rfl rfl ?_
      refine wp_iconst (v := nI 0) dX10_change_24 rfl ?_
      refine wp_sipush (v := nI 9999) dX10_change_25 (by decide) ?_
      refine wp_callSI (vs := [.int x3, .int (nI 0), .int (nI 9999)]) (rest := []) dX10_change_28 mS_X10_isWithin lm_X10_81 rfl rfl (Nat.le_of_ble_eq_true rfl) (CallI.mono h (fun y10 σ9 h => ?_))
      refine wp_ifne (tgt := 40) dX10_change_31 (by decide) ⟨fun q => ?_, fun q => ?_⟩
      · replace h := h.1 q
        refine wp_iload_n (i := 2) dX10_change_40 rfl rfl ?_
        refine wp_ifne (tgt := 57) dX10_change_41 (by decide) ⟨fun q => ?_, fun q => ?_⟩
        · replace h := h.1 q
          refine wp_aload_n (i := 0) dX10_change_57 rfl rfl ?_
          refine wp_getR (t := 1) dX10_change_58 lf_X10_10 hC_0 rfl ?_
          refine wp_getR (t := 2) dX10_change_61 lf_X10_66 hC_1 rfl ?_
          refine wp_getR (t := 6) dX10_change_64 lf_X10_94 hC_2 rfl ?_
          refine wp_astore (i := 4) (Lo' := [some (.ref 0), some (.int x1), some (.int x2), some (.int x3), some (.ref 6), none]) dX10_change_67 (by decide) rfl rfl ?_
          refine wp_aload (i := 4) dX10_change_69 rfl ?_
          refine wp_iload_n (i := 1) dX10_change_71 rfl rfl ?_
          refine wp_iald dX10_change_72 hC_6 ⟨h.1, ?_⟩
          replace h := h.2
          refine wp_istore (i := 5) (Lo' := [some (.ref 0), some (.int x1), some (.int x2), some (.int x3), some (.ref 6), some (.int (σ9 6 x1.toNatClampNeg))]) dX10_change_73 (by decide) rfl rfl ?_
          refine wp_aload (i := 4) dX10_change_75 rfl ?_
          refine wp_iload_n (i := 1) dX10_change_77 rfl rfl ?_
          refine wp_iload_n (i := 3) dX10_change_78 rfl rfl ?_
          refine wp_iast dX10_change_79 hC_6 ⟨h.1, ?_⟩
          refine wp_nm (fun σ11 e12 => ?_)
          replace h := h.2 σ11 e12
          refine wp_iload (i := 5) dX10_change_80 rfl ?_
          exact wp_ireturn dX10_change_82 rfl ⟨_, rfl, h⟩
        · replace h := h.2 q
          refine wp_aload_n (i := 0) dX10_change_44 rfl rfl ?_
          refine wp_getR (t := 1) dX10_change_45 lf_X10_10 hC_0 rfl ?_
          refine wp_getR (t := 2) dX10_change_48 lf_X10_66 hC_1 rfl ?_
          refine wp_getR (t := 5) dX10_change_51 lf_X10_91 hC_2 rfl ?_
          refine wp_goto (tgt := 67) dX10_change_54 (by decide) ?_
          refine wp_astore (i := 4) (Lo' := [some (.ref 0), some (.int x1), some (.int x2), some (.int x3), some (.ref 5), none]) dX10_change_67 (by decide) rfl rfl ?_
          refine wp_aload (i := 4) dX10_change_69 rfl ?_
          refine wp_iload_n (i := 1) dX10_change_71 rfl rfl ?_
          refine wp_iald dX10_change_72 hC_5 ⟨h.1, ?_⟩
          replace h := h.2
          refine wp_istore (i := 5) (Lo' := [some (.ref 0), some (.int x1), some (.int x2), some (.int x3), some (.ref 5), some (.int (σ9 5 x1.toNatClampNeg))]) dX10_change_73 (by decide) rfl rfl ?_
          refine wp_aload (i := 4) dX10_change_75 rfl ?_
          refine wp_iload_n (i := 1) dX10_change_77 rfl rfl ?_
          refine wp_iload_n (i := 3) dX10_change_78 rfl rfl ?_
          refine wp_iast dX10_change_79 hC_5 ⟨h.1, ?_⟩
          refine wp_nm (fun σ13 e14 => ?_)
          replace h := h.2 σ13 e14
          refine wp_iload (i := 5) dX10_change_80 rfl ?_
          exact wp_ireturn dX10_change_82 rfl ⟨_, rfl, h⟩
      · replace h := h.2 q
        refine wp_aload_n (i := 0) dX10_change_34 rfl rfl ?_
        refine wp_iconst (v := nI 1) dX10_change_35 rfl ?_
        refine wp_callVI (vs := [.int (nI 1)]) (rest := []) dX10_change_36 mV_X10_error lm_X10_62 hC_0 rfl rfl rfl (Nat.le_of_ble_eq_true rfl) (CallI.mono h (fun y16 σ15 h => ?_))
        exact wp_ireturn dX10_change_39 rfl ⟨_, rfl, h⟩
set_option maxRecDepth 20000 in
set_option maxHeartbeats 2000000 in
theorem vc_SD_has {E : KE} {d : Nat} {x1 : Int32} {x2 : Int32} {σ : Sg} {K : Int32 → Sg → Prop} (h : CallI E shC d mX1_knows [.ref 2, .int x1] σ (fun y2 σ1 => (y2 = 0 → CallI E shC d mX10_error [.ref 0, .int (nI 1)] σ1 (fun y4 σ3 => K y4 σ3)) ∧ (¬ y2 = 0 → CallI E shC d mX10_isDay [.int x2] σ1 (fun y6 σ5 => (¬ y6 = 0 → CallI E shC d mX1_timesOf [.ref 2, .int x1, .int x2] σ5 (fun y8 σ7 => K y8 σ7)) ∧ (y6 = 0 → CallI E shC d mX10_error [.ref 0, .int (nI 1)] σ5 (fun y10 σ9 => K y10 σ9)))))) : CallI E shC (d + 1) mX10_has [.ref 0, .int x1, .int x2] σ K := by
  refine wp_enter (Lo := [some (.ref 0), some (.int x1), some (.int x2)]) mp_X10_has (Nat.le_of_ble_eq_true rfl) rfl ?_
  refine wp_aload_n (i := 0) dX10_has_0 rfl rfl ?_
  refine wp_getR (t := 1) dX10_has_1 lf_X10_10 hC_0 rfl ?_
  refine wp_getR (t := 2) dX10_has_4 lf_X10_66 hC_1 rfl ?_
  refine wp_iload_n (i := 1) dX10_has_7 rfl rfl ?_
  refine wp_callVI (vs := [.int x1]) (rest := []) dX10_has_8 mV_X1_knows lm_X10_78 hC_2 rfl rfl rfl (Nat.le_of_ble_eq_true rfl) (CallI.mono h (fun y2 σ1 h => ?_))
  refine wp_ifeq (tgt := 21) dX10_has_11 (by decide) ⟨fun q => ?_, fun q => ?_⟩
  · replace h := h.1 q
    refine wp_aload_n (i := 0) dX10_has_21 rfl rfl ?_
    refine wp_iconst (v := nI 1) dX10_has_22 rfl ?_
    refine wp_callVI (vs := [.int (nI 1)]) (rest := []) dX10_has_23 mV_X10_error lm_X10_62 hC_0 rfl rfl rfl (Nat.le_of_ble_eq_true rfl) (CallI.mono h (fun y4 σ3 h => ?_))
    exact wp_ireturn dX10_has_26 rfl ⟨_, rfl, h⟩
  · replace h := h.2 q
    refine wp_iload_n (i := 2) dX10_has_14 rfl rfl ?_
    refine wp_callSI (vs := [.int x2]) (rest := []) dX10_has_15 mS_X10_isDay lm_X10_115 rfl rfl (Nat.le_of_ble_eq_true rfl) (CallI.mono h (fun y6 σ5 h => ?_))
    refine wp_ifne (tgt := 27) dX10_has_18 (by decide) ⟨fun q => ?_, fun q => ?_⟩
    · replace h := h.1 q
      refine wp_aload_n (i := 0) dX10_has_27 rfl rfl ?_
      refine wp_getR (t := 1) dX10_has_28 lf_X10_10 hC_0 rfl ?_
      refine wp_getR (t := 2) dX10_has_31 lf_X10_66 hC_1 rfl ?_
      refine wp_iload_n (i := 1) dX10_has_34 rfl rfl ?_
      refine wp_iload_n (i := 2) dX10_has_35 rfl rfl ?_
      refine wp_callVI (vs := [.int x1, .int x2]) (rest := []) dX10_has_36 mV_X1_timesOf lm_X10_118 hC_2 rfl rfl rfl (Nat.le_of_ble_eq_true rfl) (CallI.mono h (fun y8 σ7 h => ?_))
      exact wp_ireturn dX10_has_39 rfl ⟨_, rfl, h⟩
    · replace h := h.2 q
      refine wp_aload_n (i := 0) dX10_has_21 rfl rfl ?_
      refine wp_iconst (v := nI 1) dX10_has_22 rfl ?_
      refine wp_callVI (vs := [.int (nI 1)]) (rest := []) dX10_has_23 mV_X10_error lm_X10_62 hC_0 rfl rfl rfl (Nat.le_of_ble_eq_true rfl) (CallI.mono h (fun y10 σ9 h => ?_))
      exact wp_ireturn dX10_has_26 rfl ⟨_, rfl, h⟩
set_option maxRecDepth 20000 in
set_option maxHeartbeats 2000000 in
theorem vc_SD_give {E : KE} {d : Nat} {x1 : Int32} {x2 : Int32} {x3 : Int32} {σ : Sg} {K : Int32 → Sg → Prop} (h : CallI E shC d mX1_knows [.ref 2, .int x1] σ (fun y2 σ1 => (y2 = 0 → CallI E shC d mX10_error [.ref 0, .int (nI 1)] σ1 (fun y4 σ3 => K y4 σ3)) ∧ (¬ y2 = 0 → CallI E shC d mX10_isDay [.int x2] σ1 (fun y6 σ5 => (y6 = 0 → CallI E shC d mX10_error [.ref 0, .int (nI 1)] σ5 (fun y8 σ7 => K y8 σ7)) ∧ (¬ y6 = 0 → CallI E shC d mX10_isWithin [.int x3, .int (nI 0), .int (nI 9)] σ5 (fun y10 σ9 => (¬ y10 = 0 → CallI E shC d mX1_timesOf [.ref 2, .int x1, .int x2] σ9 (fun y12 σ11 => CallN E shC d mX1_setTimes [.ref 2, .int x1, .int x2, .int x3] σ11 (fun σ13 => K y12 σ13))) ∧ (y10 = 0 → CallI E shC d mX10_error [.ref 0, .int (nI 1)] σ9 (fun y15 σ14 => K y15 σ14)))))))) : CallI E shC (d + 1) mX10_give [.ref 0, .int x1, .int x2, .int x3] σ K := by
  refine wp_enter (Lo := [some (.ref 0), some (.int x1), some (.int x2), some (.int x3), none]) mp_X10_give (Nat.le_of_ble_eq_true rfl) rfl ?_
  refine wp_aload_n (i := 0) dX10_give_0 rfl rfl ?_
  refine wp_getR (t := 1) dX10_give_1 lf_X10_10 hC_0 rfl ?_
  refine wp_getR (t := 2) dX10_give_4 lf_X10_66 hC_1 rfl ?_
  refine wp_iload_n (i := 1) dX10_give_7 rfl rfl ?_
  refine wp_callVI (vs := [.int x1]) (rest := []) dX10_give_8 mV_X1_knows lm_X10_78 hC_2 rfl rfl rfl (Nat.le_of_ble_eq_true rfl) (CallI.mono h (fun y2 σ1 h => ?_))
  refine wp_ifeq (tgt := 31) dX10_give_11 (by decide) ⟨fun q => ?_, fun q => ?_⟩
  · replace h := h.1 q
    refine wp_aload_n (i := 0) dX10_give_31 rfl rfl ?_
    refine wp_iconst (v := nI 1) dX10_give_32 rfl ?_
    refine wp_callVI (vs := [.int (nI 1)]) (rest := []) dX10_give_33 mV_X10_error lm_X10_62 hC_0 rfl rfl rfl (Nat.le_of_ble_eq_true rfl) (CallI.mono h (fun y4 σ3 h => ?_))
    exact wp_ireturn dX10_give_36 rfl ⟨_, rfl, h⟩
  · replace h := h.2 q
    refine wp_iload_n (i := 2) dX10_give_14 rfl rfl ?_
    refine wp_callSI (vs := [.int x2]) (rest := []) dX10_give_15 mS_X10_isDay lm_X10_115 rfl rfl (Nat.le_of_ble_eq_true rfl) (CallI.mono h (fun y6 σ5 h => ?_))
    refine wp_ifeq (tgt := 31) dX10_give_18 (by decide) ⟨fun q => ?_, fun q => ?_⟩
    · replace h := h.1 q
      refine wp_aload_n (i := 0) dX10_give_31 rfl rfl ?_
      refine wp_iconst (v := nI 1) dX10_give_32 rfl ?_
      refine wp_callVI (vs := [.int (nI 1)]) (rest := []) dX10_give_33 mV_X10_error lm_X10_62 hC_0 rfl rfl rfl (Nat.le_of_ble_eq_true rfl) (CallI.mono h (fun y8 σ7 h => ?_))
      exact wp_ireturn dX10_give_36 rfl ⟨_, rfl, h⟩
    · replace h := h.2 q
      refine wp_iload_n (i := 3) dX10_give_21 rfl rfl ?_
      refine wp_iconst (v := nI 0) dX10_give_22 rfl ?_
      refine wp_bipush (v := nI 9) dX10_give_23 (by decide) ?_
      refine wp_callSI (vs := [.int x3, .int (nI 0), .int (nI 9)]) (rest := []) dX10_give_25 mS_X10_isWithin lm_X10_81 rfl rfl (Nat.le_of_ble_eq_true rfl) (CallI.mono h (fun y10 σ9 h => ?_))
      refine wp_ifne (tgt := 37) dX10_give_28 (by decide) ⟨fun q => ?_, fun q => ?_⟩
      · replace h := h.1 q
        refine wp_aload_n (i := 0) dX10_give_37 rfl rfl ?_
        refine wp_getR (t := 1) dX10_give_38 lf_X10_10 hC_0 rfl ?_
        refine wp_getR (t := 2) dX10_give_41 lf_X10_66 hC_1 rfl ?_
        refine wp_iload_n (i := 1) dX10_give_44 rfl rfl ?_
        refine wp_iload_n (i := 2) dX10_give_45 rfl rfl ?_
        refine wp_callVI (vs := [.int x1, .int x2]) (rest := []) dX10_give_46 mV_X1_timesOf lm_X10_118 hC_2 rfl rfl rfl (Nat.le_of_ble_eq_true rfl) (CallI.mono h (fun y12 σ11 h => ?_))
        refine wp_istore (i := 4) (Lo' := [some (.ref 0), some (.int x1), some (.int x2), some (.int x3), some (.int y12)]) dX10_give_49 (by decide) rfl rfl ?_
        refine wp_aload_n (i := 0) dX10_give_51 rfl rfl ?_
        refine wp_getR (t := 1) dX10_give_52 lf_X10_10 hC_0 rfl ?_
        refine wp_getR (t := 2) dX10_give_55 lf_X10_66 hC_1 rfl ?_
        refine wp_iload_n (i := 1) dX10_give_58 rfl rfl ?_
        refine wp_iload_n (i := 2) dX10_give_59 rfl rfl ?_
        refine wp_iload_n (i := 3) dX10_give_60 rfl rfl ?_
        refine wp_callVN (vs := [.int x1, .int x2, .int x3]) (rest := []) dX10_give_61 mV_X1_setTimes lm_X10_121 hC_2 rfl rfl rfl (Nat.le_of_ble_eq_true rfl) (CallN.mono h (fun σ13 h => ?_))
        refine wp_iload (i := 4) dX10_give_64 rfl ?_
        exact wp_ireturn dX10_give_66 rfl ⟨_, rfl, h⟩
      · replace h := h.2 q
        refine wp_aload_n (i := 0) dX10_give_31 rfl rfl ?_
        refine wp_iconst (v := nI 1) dX10_give_32 rfl ?_
        refine wp_callVI (vs := [.int (nI 1)]) (rest := []) dX10_give_33 mV_X10_error lm_X10_62 hC_0 rfl rfl rfl (Nat.le_of_ble_eq_true rfl) (CallI.mono h (fun y15 σ14 h => ?_))
        exact wp_ireturn dX10_give_36 rfl ⟨_, rfl, h⟩
set_option maxRecDepth 20000 in
set_option maxHeartbeats 2000000 in
theorem vc_Text_isThere_16 {E : KE} {d : Nat} {σ : Sg} {K : Int32 → Sg → Prop} (h : ((σ 17 1) ≤ 0 → K (nI 0) σ) ∧ (¬ (σ 17 1) ≤ 0 → K (nI 1) σ)) : CallI E shC d mX6_isThere [.ref 16] σ K := by
  refine wp_enter (Lo := [some (.ref 16)]) mp_X6_isThere (Nat.le_of_ble_eq_true rfl) rfl ?_
  refine wp_aload_n (i := 0) dX6_isThere_0 rfl rfl ?_
  refine wp_getR (t := 17) dX6_isThere_1 lf_X6_14 hC_16 rfl ?_
  refine wp_getI dX6_isThere_4 lf_X6_24 hC_17 rfl ?_
  refine wp_ifle (tgt := 14) dX6_isThere_7 (by decide) ⟨fun q => ?_, fun q => ?_⟩
  · replace h := h.1 q
    refine wp_iconst (v := nI 0) dX6_isThere_14 rfl ?_
    exact wp_zreturn dX6_isThere_15 rfl ⟨rfl, _, rfl, h⟩
  · replace h := h.2 q
    refine wp_iconst (v := nI 1) dX6_isThere_10 rfl ?_
    refine wp_goto (tgt := 15) dX6_isThere_11 (by decide) ?_
    exact wp_zreturn dX6_isThere_15 rfl ⟨rfl, _, rfl, h⟩
set_option maxRecDepth 20000 in
set_option maxHeartbeats 2000000 in
theorem vb_Text_gives_16_69 {E : KE} {d : Nat} {x1 : Int32} {x2 : Int32} {x3 : Int32} {x4 : Int32} {x5 : Int32} {x6 : Int32} {σ : Sg} {K : Int32 → Sg → Prop} (h : (¬ x6 = (nI 20033) → (x4 ≤ (nI 1) → WP E shC mX6_gives (d + 1) 6 [some (.ref 16), some (.int x1), some (.int x2), some (.int x3), some (.int x4), some (.int (x5 + nI 1)), none] [] σ (k_qi K)) ∧ (¬ x4 ≤ (nI 1) → vp_in ((x4 + (-1 : Int32)) - (nI 1)) 60 ∧ (vp_in (x4 + (-1 : Int32)) 60 ∧ (CallI E shC d mX6_joined [.int (x6 - (nI 20000)), .int (σ 19 ((x4 + (-1 : Int32)) - (nI 1)).toNatClampNeg), .int (σ 19 (x4 + (-1 : Int32)).toNatClampNeg)] σ (fun y2 σ1 => vp_in ((x4 + (-1 : Int32)) - (nI 1)) 60 ∧ (∀ σ3, σ3 = k_put σ1 19 (upd (σ1 19) ((x4 + (-1 : Int32)) - (nI 1)).toNatClampNeg y2) → WP E shC mX6_gives (d + 1) 6 [some (.ref 16), some (.int x1), some (.int x2), some (.int x3), some (.int (x4 + (-1 : Int32))), some (.int (x5 + nI 1)), none] [] σ3 (k_qi K))))))) ∧ (x6 = (nI 20033) → (x4 ≤ 0 → (x4 ≤ (nI 1) → WP E shC mX6_gives (d + 1) 6 [some (.ref 16), some (.int x1), some (.int x2), some (.int x3), some (.int x4), some (.int (x5 + nI 1)), none] [] σ (k_qi K)) ∧ (¬ x4 ≤ (nI 1) → vp_in ((x4 + (-1 : Int32)) - (nI 1)) 60 ∧ (vp_in (x4 + (-1 : Int32)) 60 ∧ (CallI E shC d mX6_joined [.int (x6 - (nI 20000)), .int (σ 19 ((x4 + (-1 : Int32)) - (nI 1)).toNatClampNeg), .int (σ 19 (x4 + (-1 : Int32)).toNatClampNeg)] σ (fun y6 σ5 => vp_in ((x4 + (-1 : Int32)) - (nI 1)) 60 ∧ (∀ σ7, σ7 = k_put σ5 19 (upd (σ5 19) ((x4 + (-1 : Int32)) - (nI 1)).toNatClampNeg y6) → WP E shC mX6_gives (d + 1) 6 [some (.ref 16), some (.int x1), some (.int x2), some (.int x3), some (.int (x4 + (-1 : Int32))), some (.int (x5 + nI 1)), none] [] σ7 (k_qi K))))))) ∧ (¬ x4 ≤ 0 → vp_in (x4 - (nI 1)) 60 ∧ ((¬ (σ 19 (x4 - (nI 1)).toNatClampNeg) = 0 → vp_in (x4 - (nI 1)) 60 ∧ (∀ σ9, σ9 = k_put σ 19 (upd (σ 19) (x4 - (nI 1)).toNatClampNeg (nI 0)) → WP E shC mX6_gives (d + 1) 6 [some (.ref 16), some (.int x1), some (.int x2), some (.int x3), some (.int x4), some (.int (x5 + nI 1)), none] [] σ9 (k_qi K))) ∧ ((σ 19 (x4 - (nI 1)).toNatClampNeg) = 0 → vp_in (x4 - (nI 1)) 60 ∧ (∀ σ11, σ11 = k_put σ 19 (upd (σ 19) (x4 - (nI 1)).toNatClampNeg (nI 1)) → WP E shC mX6_gives (d + 1) 6 [some (.ref 16), some (.int x1), some (.int x2), some (.int x3), some (.int x4), some (.int (x5 + nI 1)), none] [] σ11 (k_qi K))))))) : WP E shC mX6_gives (d + 1) 69 [some (.ref 16), some (.int x1), some (.int x2), some (.int x3), some (.int x4), some (.int x5), some (.int x6)] [] σ (k_qi K) := by
  refine wp_iload (i := 6) dX6_gives_69 rfl ?_
  refine wp_sipush (v := nI 20033) dX6_gives_71 (by decide) ?_
  refine wp_icmpne (tgt := 111) dX6_gives_74 (by decide) ⟨fun q => ?_, fun q => ?_⟩
  · replace h := h.1 q
    refine wp_iload (i := 4) dX6_gives_111 rfl ?_
    refine wp_iconst (v := nI 1) dX6_gives_113 rfl ?_
    refine wp_icmple (tgt := 154) dX6_gives_114 (by decide) ⟨fun q => ?_, fun q => ?_⟩
    · replace h := h.1 q
      refine wp_iinc (i := 5) (v := x5 + nI 1) (Lo' := [some (.ref 16), some (.int x1), some (.int x2), some (.int x3), some (.int x4), some (.int (x5 + nI 1)), some (.int x6)]) dX6_gives_154 rfl (by rfl) (by decide) rfl rfl ?_
      refine wp_goto (tgt := 6) dX6_gives_157 (by decide) ?_
      exact wp_mask [true, true, true, true, true, true, false] h
    · replace h := h.2 q
      refine wp_iinc (i := 4) (v := x4 + (-1 : Int32)) (Lo' := [some (.ref 16), some (.int x1), some (.int x2), some (.int x3), some (.int (x4 + (-1 : Int32))), some (.int x5), some (.int x6)]) dX6_gives_117 rfl (by rfl) (by decide) rfl rfl ?_
      refine wp_aload_n (i := 0) dX6_gives_120 rfl rfl ?_
      refine wp_getR (t := 19) dX6_gives_121 lf_X6_20 hC_16 rfl ?_
      refine wp_iload (i := 4) dX6_gives_124 rfl ?_
      refine wp_iconst (v := nI 1) dX6_gives_126 rfl ?_
      refine wp_isub dX6_gives_127 ?_
      refine wp_iload (i := 6) dX6_gives_128 rfl ?_
      refine wp_sipush (v := nI 20000) dX6_gives_130 (by decide) ?_
      refine wp_isub dX6_gives_133 ?_
      refine wp_aload_n (i := 0) dX6_gives_134 rfl rfl ?_
      refine wp_getR (t := 19) dX6_gives_135 lf_X6_20 hC_16 rfl ?_
      refine wp_iload (i := 4) dX6_gives_138 rfl ?_
      refine wp_iconst (v := nI 1) dX6_gives_140 rfl ?_
      refine wp_isub dX6_gives_141 ?_
      refine wp_iald dX6_gives_142 hC_19 ⟨h.1, ?_⟩
      replace h := h.2
      refine wp_aload_n (i := 0) dX6_gives_143 rfl rfl ?_
      refine wp_getR (t := 19) dX6_gives_144 lf_X6_20 hC_16 rfl ?_
      refine wp_iload (i := 4) dX6_gives_147 rfl ?_
      refine wp_iald dX6_gives_149 hC_19 ⟨h.1, ?_⟩
      replace h := h.2
      refine wp_callSI (vs := [.int (x6 - (nI 20000)), .int (σ 19 ((x4 + (-1 : Int32)) - (nI 1)).toNatClampNeg), .int (σ 19 (x4 + (-1 : Int32)).toNatClampNeg)]) (rest := [.int ((x4 + (-1 : Int32)) - (nI 1)), .ref 19]) dX6_gives_150 mS_X6_joined lm_X6_35 rfl rfl (Nat.le_of_ble_eq_true rfl) (CallI.mono h (fun y2 σ1 h => ?_))
      refine wp_iast dX6_gives_153 hC_19 ⟨h.1, ?_⟩
      refine wp_nm (fun σ3 e4 => ?_)
      replace h := h.2 σ3 e4
      refine wp_iinc (i := 5) (v := x5 + nI 1) (Lo' := [some (.ref 16), some (.int x1), some (.int x2), some (.int x3), some (.int (x4 + (-1 : Int32))), some (.int (x5 + nI 1)), some (.int x6)]) dX6_gives_154 rfl (by rfl) (by decide) rfl rfl ?_
      refine wp_goto (tgt := 6) dX6_gives_157 (by decide) ?_
      exact wp_mask [true, true, true, true, true, true, false] h
  · replace h := h.2 q
    refine wp_iload (i := 4) dX6_gives_77 rfl ?_
    refine wp_ifle (tgt := 111) dX6_gives_79 (by decide) ⟨fun q => ?_, fun q => ?_⟩
    · replace h := h.1 q
      refine wp_iload (i := 4) dX6_gives_111 rfl ?_
      refine wp_iconst (v := nI 1) dX6_gives_113 rfl ?_
      refine wp_icmple (tgt := 154) dX6_gives_114 (by decide) ⟨fun q => ?_, fun q => ?_⟩
      · replace h := h.1 q
        refine wp_iinc (i := 5) (v := x5 + nI 1) (Lo' := [some (.ref 16), some (.int x1), some (.int x2), some (.int x3), some (.int x4), some (.int (x5 + nI 1)), some (.int x6)]) dX6_gives_154 rfl (by rfl) (by decide) rfl rfl ?_
        refine wp_goto (tgt := 6) dX6_gives_157 (by decide) ?_
        exact wp_mask [true, true, true, true, true, true, false] h
      · replace h := h.2 q
        refine wp_iinc (i := 4) (v := x4 + (-1 : Int32)) (Lo' := [some (.ref 16), some (.int x1), some (.int x2), some (.int x3), some (.int (x4 + (-1 : Int32))), some (.int x5), some (.int x6)]) dX6_gives_117 rfl (by rfl) (by decide) rfl rfl ?_
        refine wp_aload_n (i := 0) dX6_gives_120 rfl rfl ?_
        refine wp_getR (t := 19) dX6_gives_121 lf_X6_20 hC_16 rfl ?_
        refine wp_iload (i := 4) dX6_gives_124 rfl ?_
        refine wp_iconst (v := nI 1) dX6_gives_126 rfl ?_
        refine wp_isub dX6_gives_127 ?_
        refine wp_iload (i := 6) dX6_gives_128 rfl ?_
        refine wp_sipush (v := nI 20000) dX6_gives_130 (by decide) ?_
        refine wp_isub dX6_gives_133 ?_
        refine wp_aload_n (i := 0) dX6_gives_134 rfl rfl ?_
        refine wp_getR (t := 19) dX6_gives_135 lf_X6_20 hC_16 rfl ?_
        refine wp_iload (i := 4) dX6_gives_138 rfl ?_
        refine wp_iconst (v := nI 1) dX6_gives_140 rfl ?_
        refine wp_isub dX6_gives_141 ?_
        refine wp_iald dX6_gives_142 hC_19 ⟨h.1, ?_⟩
        replace h := h.2
        refine wp_aload_n (i := 0) dX6_gives_143 rfl rfl ?_
        refine wp_getR (t := 19) dX6_gives_144 lf_X6_20 hC_16 rfl ?_
        refine wp_iload (i := 4) dX6_gives_147 rfl ?_
        refine wp_iald dX6_gives_149 hC_19 ⟨h.1, ?_⟩
        replace h := h.2
        refine wp_callSI (vs := [.int (x6 - (nI 20000)), .int (σ 19 ((x4 + (-1 : Int32)) - (nI 1)).toNatClampNeg), .int (σ 19 (x4 + (-1 : Int32)).toNatClampNeg)]) (rest := [.int ((x4 + (-1 : Int32)) - (nI 1)), .ref 19]) dX6_gives_150 mS_X6_joined lm_X6_35 rfl rfl (Nat.le_of_ble_eq_true rfl) (CallI.mono h (fun y6 σ5 h => ?_))
        refine wp_iast dX6_gives_153 hC_19 ⟨h.1, ?_⟩
        refine wp_nm (fun σ7 e8 => ?_)
        replace h := h.2 σ7 e8
        refine wp_iinc (i := 5) (v := x5 + nI 1) (Lo' := [some (.ref 16), some (.int x1), some (.int x2), some (.int x3), some (.int (x4 + (-1 : Int32))), some (.int (x5 + nI 1)), some (.int x6)]) dX6_gives_154 rfl (by rfl) (by decide) rfl rfl ?_
        refine wp_goto (tgt := 6) dX6_gives_157 (by decide) ?_
        exact wp_mask [true, true, true, true, true, true, false] h
    · replace h := h.2 q
      refine wp_aload_n (i := 0) dX6_gives_82 rfl rfl ?_
      refine wp_getR (t := 19) dX6_gives_83 lf_X6_20 hC_16 rfl ?_
      refine wp_iload (i := 4) dX6_gives_86 rfl ?_
      refine wp_iconst (v := nI 1) dX6_gives_88 rfl ?_
      refine wp_isub dX6_gives_89 ?_
      refine wp_aload_n (i := 0) dX6_gives_90 rfl rfl ?_
      refine wp_getR (t := 19) dX6_gives_91 lf_X6_20 hC_16 rfl ?_
      refine wp_iload (i := 4) dX6_gives_94 rfl ?_
      refine wp_iconst (v := nI 1) dX6_gives_96 rfl ?_
      refine wp_isub dX6_gives_97 ?_
      refine wp_iald dX6_gives_98 hC_19 ⟨h.1, ?_⟩
      replace h := h.2
      refine wp_ifne (tgt := 106) dX6_gives_99 (by decide) ⟨fun q => ?_, fun q => ?_⟩
      · replace h := h.1 q
        refine wp_iconst (v := nI 0) dX6_gives_106 rfl ?_
        refine wp_iast dX6_gives_107 hC_19 ⟨h.1, ?_⟩
        refine wp_nm (fun σ9 e10 => ?_)
        replace h := h.2 σ9 e10
        refine wp_goto (tgt := 154) dX6_gives_108 (by decide) ?_
        refine wp_iinc (i := 5) (v := x5 + nI 1) (Lo' := [some (.ref 16), some (.int x1), some (.int x2), some (.int x3), some (.int x4), some (.int (x5 + nI 1)), some (.int x6)]) dX6_gives_154 rfl (by rfl) (by decide) rfl rfl ?_
        refine wp_goto (tgt := 6) dX6_gives_157 (by decide) ?_
        exact wp_mask [true, true, true, true, true, true, false] h
      · replace h := h.2 q
        refine wp_iconst (v := nI 1) dX6_gives_102 rfl ?_
        refine wp_goto (tgt := 107) dX6_gives_103 (by decide) ?_
        refine wp_iast dX6_gives_107 hC_19 ⟨h.1, ?_⟩
        refine wp_nm (fun σ11 e12 => ?_)
        replace h := h.2 σ11 e12
        refine wp_goto (tgt := 154) dX6_gives_108 (by decide) ?_
        refine wp_iinc (i := 5) (v := x5 + nI 1) (Lo' := [some (.ref 16), some (.int x1), some (.int x2), some (.int x3), some (.int x4), some (.int (x5 + nI 1)), some (.int x6)]) dX6_gives_154 rfl (by rfl) (by decide) rfl rfl ?_
        refine wp_goto (tgt := 6) dX6_gives_157 (by decide) ?_
        exact wp_mask [true, true, true, true, true, true, false] h
set_option maxRecDepth 20000 in
set_option maxHeartbeats 2000000 in
theorem vb_Text_gives_16_6 {E : KE} {d : Nat} {x1 : Int32} {x2 : Int32} {x3 : Int32} {x4 : Int32} {x5 : Int32} {σ : Sg} {K : Int32 → Sg → Prop} (h : ((σ 17 1) ≤ x5 → vp_in (nI 0) 60 ∧ (K (σ 19 (nI 0).toNatClampNeg) σ)) ∧ (¬ (σ 17 1) ≤ x5 → vp_in x5 60 ∧ (((nI 20000) ≤ (σ 18 x5.toNatClampNeg) → WP E shC mX6_gives (d + 1) 69 [some (.ref 16), some (.int x1), some (.int x2), some (.int x3), some (.int x4), some (.int x5), some (.int (σ 18 x5.toNatClampNeg))] [] σ (k_qi K)) ∧ (¬ (nI 20000) ≤ (σ 18 x5.toNatClampNeg) → ((nI 60) ≤ x4 → WP E shC mX6_gives (d + 1) 69 [some (.ref 16), some (.int x1), some (.int x2), some (.int x3), some (.int x4), some (.int x5), some (.int (σ 18 x5.toNatClampNeg))] [] σ (k_qi K)) ∧ (¬ (nI 60) ≤ x4 → CallI E shC d mX6_operand [.int (σ 18 x5.toNatClampNeg), .int x1, .int x2, .int x3] σ (fun y2 σ1 => vp_in x4 60 ∧ (∀ σ3, σ3 = k_put σ1 19 (upd (σ1 19) x4.toNatClampNeg y2) → WP E shC mX6_gives (d + 1) 6 [some (.ref 16), some (.int x1), some (.int x2), some (.int x3), some (.int (x4 + nI 1)), some (.int (x5 + nI 1)), none] [] σ3 (k_qi K)))))))) : WP E shC mX6_gives (d + 1) 6 [some (.ref 16), some (.int x1), some (.int x2), some (.int x3), some (.int x4), some (.int x5), none] [] σ (k_qi K) := by
  refine wp_iload (i := 5) dX6_gives_6 rfl ?_
  refine wp_aload_n (i := 0) dX6_gives_8 rfl rfl ?_
  refine wp_getR (t := 17) dX6_gives_9 lf_X6_14 hC_16 rfl ?_
  refine wp_getI dX6_gives_12 lf_X6_24 hC_17 rfl ?_
  refine wp_icmpge (tgt := 160) dX6_gives_15 (by decide) ⟨fun q => ?_, fun q => ?_⟩
  · replace h := h.1 q
    refine wp_aload_n (i := 0) dX6_gives_160 rfl rfl ?_
    refine wp_getR (t := 19) dX6_gives_161 lf_X6_20 hC_16 rfl ?_
    refine wp_iconst (v := nI 0) dX6_gives_164 rfl ?_
    refine wp_iald dX6_gives_165 hC_19 ⟨h.1, ?_⟩
    replace h := h.2
    exact wp_ireturn dX6_gives_166 rfl ⟨_, rfl, h⟩
  · replace h := h.2 q
    refine wp_aload_n (i := 0) dX6_gives_18 rfl rfl ?_
    refine wp_getR (t := 17) dX6_gives_19 lf_X6_14 hC_16 rfl ?_
    refine wp_getR (t := 18) dX6_gives_22 lf_X6_28 hC_17 rfl ?_
    refine wp_iload (i := 5) dX6_gives_25 rfl ?_
    refine wp_iald dX6_gives_27 hC_18 ⟨h.1, ?_⟩
    replace h := h.2
    refine wp_istore (i := 6) (Lo' := [some (.ref 16), some (.int x1), some (.int x2), some (.int x3), some (.int x4), some (.int x5), some (.int (σ 18 x5.toNatClampNeg))]) dX6_gives_28 (by decide) rfl rfl ?_
    refine wp_iload (i := 6) dX6_gives_30 rfl ?_
    refine wp_sipush (v := nI 20000) dX6_gives_32 (by decide) ?_
    refine wp_icmpge (tgt := 69) dX6_gives_35 (by decide) ⟨fun q => ?_, fun q => ?_⟩
    · replace h := h.1 q
      exact wp_mask [true, true, true, true, true, true, true] h
    · replace h := h.2 q
      refine wp_iload (i := 4) dX6_gives_38 rfl ?_
      refine wp_aload_n (i := 0) dX6_gives_40 rfl rfl ?_
      refine wp_getR (t := 19) dX6_gives_41 lf_X6_20 hC_16 rfl ?_
      refine wp_alen dX6_gives_44 hC_19 ?_
      refine wp_icmpge (tgt := 69) dX6_gives_45 (by decide) ⟨fun q => ?_, fun q => ?_⟩
      · replace h := h.1 q
        exact wp_mask [true, true, true, true, true, true, true] h
      · replace h := h.2 q
        refine wp_aload_n (i := 0) dX6_gives_48 rfl rfl ?_
        refine wp_getR (t := 19) dX6_gives_49 lf_X6_20 hC_16 rfl ?_
        refine wp_iload (i := 4) dX6_gives_52 rfl ?_
        refine wp_iload (i := 6) dX6_gives_54 rfl ?_
        refine wp_iload_n (i := 1) dX6_gives_56 rfl rfl ?_
        refine wp_iload_n (i := 2) dX6_gives_57 rfl rfl ?_
        refine wp_iload_n (i := 3) dX6_gives_58 rfl rfl ?_
        refine wp_callSI (vs := [.int (σ 18 x5.toNatClampNeg), .int x1, .int x2, .int x3]) (rest := [.int x4, .ref 19]) dX6_gives_59 mS_X6_operand lm_X6_31 rfl rfl (Nat.le_of_ble_eq_true rfl) (CallI.mono h (fun y2 σ1 h => ?_))
        refine wp_iast dX6_gives_62 hC_19 ⟨h.1, ?_⟩
        refine wp_nm (fun σ3 e4 => ?_)
        replace h := h.2 σ3 e4
        refine wp_iinc (i := 4) (v := x4 + nI 1) (Lo' := [some (.ref 16), some (.int x1), some (.int x2), some (.int x3), some (.int (x4 + nI 1)), some (.int x5), some (.int (σ 18 x5.toNatClampNeg))]) dX6_gives_63 rfl (by rfl) (by decide) rfl rfl ?_
        refine wp_goto (tgt := 154) dX6_gives_66 (by decide) ?_
        refine wp_iinc (i := 5) (v := x5 + nI 1) (Lo' := [some (.ref 16), some (.int x1), some (.int x2), some (.int x3), some (.int (x4 + nI 1)), some (.int (x5 + nI 1)), some (.int (σ 18 x5.toNatClampNeg))]) dX6_gives_154 rfl (by rfl) (by decide) rfl rfl ?_
        refine wp_goto (tgt := 6) dX6_gives_157 (by decide) ?_
        exact wp_mask [true, true, true, true, true, true, false] h
set_option maxRecDepth 20000 in
set_option maxHeartbeats 2000000 in
theorem vc_Text_gives_16 {E : KE} {d : Nat} {x1 : Int32} {x2 : Int32} {x3 : Int32} {σ : Sg} {K : Int32 → Sg → Prop} (h : WP E shC mX6_gives (d + 1) 6 [some (.ref 16), some (.int x1), some (.int x2), some (.int x3), some (.int (nI 0)), some (.int (nI 0)), none] [] σ (k_qi K)) : CallI E shC (d + 1) mX6_gives [.ref 16, .int x1, .int x2, .int x3] σ K := by
  refine wp_enter (Lo := [some (.ref 16), some (.int x1), some (.int x2), some (.int x3), none, none, none]) mp_X6_gives (Nat.le_of_ble_eq_true rfl) rfl ?_
  refine wp_iconst (v := nI 0) dX6_gives_0 rfl ?_
  refine wp_istore (i := 4) (Lo' := [some (.ref 16), some (.int x1), some (.int x2), some (.int x3), some (.int (nI 0)), none, none]) dX6_gives_1 (by decide) rfl rfl ?_
  refine wp_iconst (v := nI 0) dX6_gives_3 rfl ?_
  refine wp_istore (i := 5) (Lo' := [some (.ref 16), some (.int x1), some (.int x2), some (.int x3), some (.int (nI 0)), some (.int (nI 0)), none]) dX6_gives_4 (by decide) rfl rfl ?_
  exact wp_mask [true, true, true, true, true, true, false] h
set_option maxRecDepth 20000 in
set_option maxHeartbeats 2000000 in
theorem vc_Text_isThere_12 {E : KE} {d : Nat} {σ : Sg} {K : Int32 → Sg → Prop} (h : ((σ 13 1) ≤ 0 → K (nI 0) σ) ∧ (¬ (σ 13 1) ≤ 0 → K (nI 1) σ)) : CallI E shC d mX6_isThere [.ref 12] σ K := by
  refine wp_enter (Lo := [some (.ref 12)]) mp_X6_isThere (Nat.le_of_ble_eq_true rfl) rfl ?_
  refine wp_aload_n (i := 0) dX6_isThere_0 rfl rfl ?_
  refine wp_getR (t := 13) dX6_isThere_1 lf_X6_14 hC_12 rfl ?_
  refine wp_getI dX6_isThere_4 lf_X6_24 hC_13 rfl ?_
  refine wp_ifle (tgt := 14) dX6_isThere_7 (by decide) ⟨fun q => ?_, fun q => ?_⟩
  · replace h := h.1 q
    refine wp_iconst (v := nI 0) dX6_isThere_14 rfl ?_
    exact wp_zreturn dX6_isThere_15 rfl ⟨rfl, _, rfl, h⟩
  · replace h := h.2 q
    refine wp_iconst (v := nI 1) dX6_isThere_10 rfl ?_
    refine wp_goto (tgt := 15) dX6_isThere_11 (by decide) ?_
    exact wp_zreturn dX6_isThere_15 rfl ⟨rfl, _, rfl, h⟩
set_option maxRecDepth 20000 in
set_option maxHeartbeats 2000000 in
theorem vb_Text_gives_12_69 {E : KE} {d : Nat} {x1 : Int32} {x2 : Int32} {x3 : Int32} {x4 : Int32} {x5 : Int32} {x6 : Int32} {σ : Sg} {K : Int32 → Sg → Prop} (h : (¬ x6 = (nI 20033) → (x4 ≤ (nI 1) → WP E shC mX6_gives (d + 1) 6 [some (.ref 12), some (.int x1), some (.int x2), some (.int x3), some (.int x4), some (.int (x5 + nI 1)), none] [] σ (k_qi K)) ∧ (¬ x4 ≤ (nI 1) → vp_in ((x4 + (-1 : Int32)) - (nI 1)) 60 ∧ (vp_in (x4 + (-1 : Int32)) 60 ∧ (CallI E shC d mX6_joined [.int (x6 - (nI 20000)), .int (σ 15 ((x4 + (-1 : Int32)) - (nI 1)).toNatClampNeg), .int (σ 15 (x4 + (-1 : Int32)).toNatClampNeg)] σ (fun y2 σ1 => vp_in ((x4 + (-1 : Int32)) - (nI 1)) 60 ∧ (∀ σ3, σ3 = k_put σ1 15 (upd (σ1 15) ((x4 + (-1 : Int32)) - (nI 1)).toNatClampNeg y2) → WP E shC mX6_gives (d + 1) 6 [some (.ref 12), some (.int x1), some (.int x2), some (.int x3), some (.int (x4 + (-1 : Int32))), some (.int (x5 + nI 1)), none] [] σ3 (k_qi K))))))) ∧ (x6 = (nI 20033) → (x4 ≤ 0 → (x4 ≤ (nI 1) → WP E shC mX6_gives (d + 1) 6 [some (.ref 12), some (.int x1), some (.int x2), some (.int x3), some (.int x4), some (.int (x5 + nI 1)), none] [] σ (k_qi K)) ∧ (¬ x4 ≤ (nI 1) → vp_in ((x4 + (-1 : Int32)) - (nI 1)) 60 ∧ (vp_in (x4 + (-1 : Int32)) 60 ∧ (CallI E shC d mX6_joined [.int (x6 - (nI 20000)), .int (σ 15 ((x4 + (-1 : Int32)) - (nI 1)).toNatClampNeg), .int (σ 15 (x4 + (-1 : Int32)).toNatClampNeg)] σ (fun y6 σ5 => vp_in ((x4 + (-1 : Int32)) - (nI 1)) 60 ∧ (∀ σ7, σ7 = k_put σ5 15 (upd (σ5 15) ((x4 + (-1 : Int32)) - (nI 1)).toNatClampNeg y6) → WP E shC mX6_gives (d + 1) 6 [some (.ref 12), some (.int x1), some (.int x2), some (.int x3), some (.int (x4 + (-1 : Int32))), some (.int (x5 + nI 1)), none] [] σ7 (k_qi K))))))) ∧ (¬ x4 ≤ 0 → vp_in (x4 - (nI 1)) 60 ∧ ((¬ (σ 15 (x4 - (nI 1)).toNatClampNeg) = 0 → vp_in (x4 - (nI 1)) 60 ∧ (∀ σ9, σ9 = k_put σ 15 (upd (σ 15) (x4 - (nI 1)).toNatClampNeg (nI 0)) → WP E shC mX6_gives (d + 1) 6 [some (.ref 12), some (.int x1), some (.int x2), some (.int x3), some (.int x4), some (.int (x5 + nI 1)), none] [] σ9 (k_qi K))) ∧ ((σ 15 (x4 - (nI 1)).toNatClampNeg) = 0 → vp_in (x4 - (nI 1)) 60 ∧ (∀ σ11, σ11 = k_put σ 15 (upd (σ 15) (x4 - (nI 1)).toNatClampNeg (nI 1)) → WP E shC mX6_gives (d + 1) 6 [some (.ref 12), some (.int x1), some (.int x2), some (.int x3), some (.int x4), some (.int (x5 + nI 1)), none] [] σ11 (k_qi K))))))) : WP E shC mX6_gives (d + 1) 69 [some (.ref 12), some (.int x1), some (.int x2), some (.int x3), some (.int x4), some (.int x5), some (.int x6)] [] σ (k_qi K) := by
  refine wp_iload (i := 6) dX6_gives_69 rfl ?_
  refine wp_sipush (v := nI 20033) dX6_gives_71 (by decide) ?_
  refine wp_icmpne (tgt := 111) dX6_gives_74 (by decide) ⟨fun q => ?_, fun q => ?_⟩
  · replace h := h.1 q
    refine wp_iload (i := 4) dX6_gives_111 rfl ?_
    refine wp_iconst (v := nI 1) dX6_gives_113 rfl ?_
    refine wp_icmple (tgt := 154) dX6_gives_114 (by decide) ⟨fun q => ?_, fun q => ?_⟩
    · replace h := h.1 q
      refine wp_iinc (i := 5) (v := x5 + nI 1) (Lo' := [some (.ref 12), some (.int x1), some (.int x2), some (.int x3), some (.int x4), some (.int (x5 + nI 1)), some (.int x6)]) dX6_gives_154 rfl (by rfl) (by decide) rfl rfl ?_
      refine wp_goto (tgt := 6) dX6_gives_157 (by decide) ?_
      exact wp_mask [true, true, true, true, true, true, false] h
    · replace h := h.2 q
      refine wp_iinc (i := 4) (v := x4 + (-1 : Int32)) (Lo' := [some (.ref 12), some (.int x1), some (.int x2), some (.int x3), some (.int (x4 + (-1 : Int32))), some (.int x5), some (.int x6)]) dX6_gives_117 rfl (by rfl) (by decide) rfl rfl ?_
      refine wp_aload_n (i := 0) dX6_gives_120 rfl rfl ?_
      refine wp_getR (t := 15) dX6_gives_121 lf_X6_20 hC_12 rfl ?_
      refine wp_iload (i := 4) dX6_gives_124 rfl ?_
      refine wp_iconst (v := nI 1) dX6_gives_126 rfl ?_
      refine wp_isub dX6_gives_127 ?_
      refine wp_iload (i := 6) dX6_gives_128 rfl ?_
      refine wp_sipush (v := nI 20000) dX6_gives_130 (by decide) ?_
      refine wp_isub dX6_gives_133 ?_
      refine wp_aload_n (i := 0) dX6_gives_134 rfl rfl ?_
      refine wp_getR (t := 15) dX6_gives_135 lf_X6_20 hC_12 rfl ?_
      refine wp_iload (i := 4) dX6_gives_138 rfl ?_
      refine wp_iconst (v := nI 1) dX6_gives_140 rfl ?_
      refine wp_isub dX6_gives_141 ?_
      refine wp_iald dX6_gives_142 hC_15 ⟨h.1, ?_⟩
      replace h := h.2
      refine wp_aload_n (i := 0) dX6_gives_143 rfl rfl ?_
      refine wp_getR (t := 15) dX6_gives_144 lf_X6_20 hC_12 rfl ?_
      refine wp_iload (i := 4) dX6_gives_147 rfl ?_
      refine wp_iald dX6_gives_149 hC_15 ⟨h.1, ?_⟩
      replace h := h.2
      refine wp_callSI (vs := [.int (x6 - (nI 20000)), .int (σ 15 ((x4 + (-1 : Int32)) - (nI 1)).toNatClampNeg), .int (σ 15 (x4 + (-1 : Int32)).toNatClampNeg)]) (rest := [.int ((x4 + (-1 : Int32)) - (nI 1)), .ref 15]) dX6_gives_150 mS_X6_joined lm_X6_35 rfl rfl (Nat.le_of_ble_eq_true rfl) (CallI.mono h (fun y2 σ1 h => ?_))
      refine wp_iast dX6_gives_153 hC_15 ⟨h.1, ?_⟩
      refine wp_nm (fun σ3 e4 => ?_)
      replace h := h.2 σ3 e4
      refine wp_iinc (i := 5) (v := x5 + nI 1) (Lo' := [some (.ref 12), some (.int x1), some (.int x2), some (.int x3), some (.int (x4 + (-1 : Int32))), some (.int (x5 + nI 1)), some (.int x6)]) dX6_gives_154 rfl (by rfl) (by decide) rfl rfl ?_
      refine wp_goto (tgt := 6) dX6_gives_157 (by decide) ?_
      exact wp_mask [true, true, true, true, true, true, false] h
  · replace h := h.2 q
    refine wp_iload (i := 4) dX6_gives_77 rfl ?_
    refine wp_ifle (tgt := 111) dX6_gives_79 (by decide) ⟨fun q => ?_, fun q => ?_⟩
    · replace h := h.1 q
      refine wp_iload (i := 4) dX6_gives_111 rfl ?_
      refine wp_iconst (v := nI 1) dX6_gives_113 rfl ?_
      refine wp_icmple (tgt := 154) dX6_gives_114 (by decide) ⟨fun q => ?_, fun q => ?_⟩
      · replace h := h.1 q
        refine wp_iinc (i := 5) (v := x5 + nI 1) (Lo' := [some (.ref 12), some (.int x1), some (.int x2), some (.int x3), some (.int x4), some (.int (x5 + nI 1)), some (.int x6)]) dX6_gives_154 rfl (by rfl) (by decide) rfl rfl ?_
        refine wp_goto (tgt := 6) dX6_gives_157 (by decide) ?_
        exact wp_mask [true, true, true, true, true, true, false] h
      · replace h := h.2 q
        refine wp_iinc (i := 4) (v := x4 + (-1 : Int32)) (Lo' := [some (.ref 12), some (.int x1), some (.int x2), some (.int x3), some (.int (x4 + (-1 : Int32))), some (.int x5), some (.int x6)]) dX6_gives_117 rfl (by rfl) (by decide) rfl rfl ?_
        refine wp_aload_n (i := 0) dX6_gives_120 rfl rfl ?_
        refine wp_getR (t := 15) dX6_gives_121 lf_X6_20 hC_12 rfl ?_
        refine wp_iload (i := 4) dX6_gives_124 rfl ?_
        refine wp_iconst (v := nI 1) dX6_gives_126 rfl ?_
        refine wp_isub dX6_gives_127 ?_
        refine wp_iload (i := 6) dX6_gives_128 rfl ?_
        refine wp_sipush (v := nI 20000) dX6_gives_130 (by decide) ?_
        refine wp_isub dX6_gives_133 ?_
        refine wp_aload_n (i := 0) dX6_gives_134 rfl rfl ?_
        refine wp_getR (t := 15) dX6_gives_135 lf_X6_20 hC_12 rfl ?_
        refine wp_iload (i := 4) dX6_gives_138 rfl ?_
        refine wp_iconst (v := nI 1) dX6_gives_140 rfl ?_
        refine wp_isub dX6_gives_141 ?_
        refine wp_iald dX6_gives_142 hC_15 ⟨h.1, ?_⟩
        replace h := h.2
        refine wp_aload_n (i := 0) dX6_gives_143 rfl rfl ?_
        refine wp_getR (t := 15) dX6_gives_144 lf_X6_20 hC_12 rfl ?_
        refine wp_iload (i := 4) dX6_gives_147 rfl ?_
        refine wp_iald dX6_gives_149 hC_15 ⟨h.1, ?_⟩
        replace h := h.2
        refine wp_callSI (vs := [.int (x6 - (nI 20000)), .int (σ 15 ((x4 + (-1 : Int32)) - (nI 1)).toNatClampNeg), .int (σ 15 (x4 + (-1 : Int32)).toNatClampNeg)]) (rest := [.int ((x4 + (-1 : Int32)) - (nI 1)), .ref 15]) dX6_gives_150 mS_X6_joined lm_X6_35 rfl rfl (Nat.le_of_ble_eq_true rfl) (CallI.mono h (fun y6 σ5 h => ?_))
        refine wp_iast dX6_gives_153 hC_15 ⟨h.1, ?_⟩
        refine wp_nm (fun σ7 e8 => ?_)
        replace h := h.2 σ7 e8
        refine wp_iinc (i := 5) (v := x5 + nI 1) (Lo' := [some (.ref 12), some (.int x1), some (.int x2), some (.int x3), some (.int (x4 + (-1 : Int32))), some (.int (x5 + nI 1)), some (.int x6)]) dX6_gives_154 rfl (by rfl) (by decide) rfl rfl ?_
        refine wp_goto (tgt := 6) dX6_gives_157 (by decide) ?_
        exact wp_mask [true, true, true, true, true, true, false] h
    · replace h := h.2 q
      refine wp_aload_n (i := 0) dX6_gives_82 rfl rfl ?_
      refine wp_getR (t := 15) dX6_gives_83 lf_X6_20 hC_12 rfl ?_
      refine wp_iload (i := 4) dX6_gives_86 rfl ?_
      refine wp_iconst (v := nI 1) dX6_gives_88 rfl ?_
      refine wp_isub dX6_gives_89 ?_
      refine wp_aload_n (i := 0) dX6_gives_90 rfl rfl ?_
      refine wp_getR (t := 15) dX6_gives_91 lf_X6_20 hC_12 rfl ?_
      refine wp_iload (i := 4) dX6_gives_94 rfl ?_
      refine wp_iconst (v := nI 1) dX6_gives_96 rfl ?_
      refine wp_isub dX6_gives_97 ?_
      refine wp_iald dX6_gives_98 hC_15 ⟨h.1, ?_⟩
      replace h := h.2
      refine wp_ifne (tgt := 106) dX6_gives_99 (by decide) ⟨fun q => ?_, fun q => ?_⟩
      · replace h := h.1 q
        refine wp_iconst (v := nI 0) dX6_gives_106 rfl ?_
        refine wp_iast dX6_gives_107 hC_15 ⟨h.1, ?_⟩
        refine wp_nm (fun σ9 e10 => ?_)
        replace h := h.2 σ9 e10
        refine wp_goto (tgt := 154) dX6_gives_108 (by decide) ?_
        refine wp_iinc (i := 5) (v := x5 + nI 1) (Lo' := [some (.ref 12), some (.int x1), some (.int x2), some (.int x3), some (.int x4), some (.int (x5 + nI 1)), some (.int x6)]) dX6_gives_154 rfl (by rfl) (by decide) rfl rfl ?_
        refine wp_goto (tgt := 6) dX6_gives_157 (by decide) ?_
        exact wp_mask [true, true, true, true, true, true, false] h
      · replace h := h.2 q
        refine wp_iconst (v := nI 1) dX6_gives_102 rfl ?_
        refine wp_goto (tgt := 107) dX6_gives_103 (by decide) ?_
        refine wp_iast dX6_gives_107 hC_15 ⟨h.1, ?_⟩
        refine wp_nm (fun σ11 e12 => ?_)
        replace h := h.2 σ11 e12
        refine wp_goto (tgt := 154) dX6_gives_108 (by decide) ?_
        refine wp_iinc (i := 5) (v := x5 + nI 1) (Lo' := [some (.ref 12), some (.int x1), some (.int x2), some (.int x3), some (.int x4), some (.int (x5 + nI 1)), some (.int x6)]) dX6_gives_154 rfl (by rfl) (by decide) rfl rfl ?_
        refine wp_goto (tgt := 6) dX6_gives_157 (by decide) ?_
        exact wp_mask [true, true, true, true, true, true, false] h
set_option maxRecDepth 20000 in
set_option maxHeartbeats 2000000 in
theorem vb_Text_gives_12_6 {E : KE} {d : Nat} {x1 : Int32} {x2 : Int32} {x3 : Int32} {x4 : Int32} {x5 : Int32} {σ : Sg} {K : Int32 → Sg → Prop} (h : ((σ 13 1) ≤ x5 → vp_in (nI 0) 60 ∧ (K (σ 15 (nI 0).toNatClampNeg) σ)) ∧ (¬ (σ 13 1) ≤ x5 → vp_in x5 60 ∧ (((nI 20000) ≤ (σ 14 x5.toNatClampNeg) → WP E shC mX6_gives (d + 1) 69 [some (.ref 12), some (.int x1), some (.int x2), some (.int x3), some (.int x4), some (.int x5), some (.int (σ 14 x5.toNatClampNeg))] [] σ (k_qi K)) ∧ (¬ (nI 20000) ≤ (σ 14 x5.toNatClampNeg) → ((nI 60) ≤ x4 → WP E shC mX6_gives (d + 1) 69 [some (.ref 12), some (.int x1), some (.int x2), some (.int x3), some (.int x4), some (.int x5), some (.int (σ 14 x5.toNatClampNeg))] [] σ (k_qi K)) ∧ (¬ (nI 60) ≤ x4 → CallI E shC d mX6_operand [.int (σ 14 x5.toNatClampNeg), .int x1, .int x2, .int x3] σ (fun y2 σ1 => vp_in x4 60 ∧ (∀ σ3, σ3 = k_put σ1 15 (upd (σ1 15) x4.toNatClampNeg y2) → WP E shC mX6_gives (d + 1) 6 [some (.ref 12), some (.int x1), some (.int x2), some (.int x3), some (.int (x4 + nI 1)), some (.int (x5 + nI 1)), none] [] σ3 (k_qi K)))))))) : WP E shC mX6_gives (d + 1) 6 [some (.ref 12), some (.int x1), some (.int x2), some (.int x3), some (.int x4), some (.int x5), none] [] σ (k_qi K) := by
  refine wp_iload (i := 5) dX6_gives_6 rfl ?_
  refine wp_aload_n (i := 0) dX6_gives_8 rfl rfl ?_
  refine wp_getR (t := 13) dX6_gives_9 lf_X6_14 hC_12 rfl ?_
  refine wp_getI dX6_gives_12 lf_X6_24 hC_13 rfl ?_
  refine wp_icmpge (tgt := 160) dX6_gives_15 (by decide) ⟨fun q => ?_, fun q => ?_⟩
  · replace h := h.1 q
    refine wp_aload_n (i := 0) dX6_gives_160 rfl rfl ?_
    refine wp_getR (t := 15) dX6_gives_161 lf_X6_20 hC_12 rfl ?_
    refine wp_iconst (v := nI 0) dX6_gives_164 rfl ?_
    refine wp_iald dX6_gives_165 hC_15 ⟨h.1, ?_⟩
    replace h := h.2
    exact wp_ireturn dX6_gives_166 rfl ⟨_, rfl, h⟩
  · replace h := h.2 q
    refine wp_aload_n (i := 0) dX6_gives_18 rfl rfl ?_
    refine wp_getR (t := 13) dX6_gives_19 lf_X6_14 hC_12 rfl ?_
    refine wp_getR (t := 14) dX6_gives_22 lf_X6_28 hC_13 rfl ?_
    refine wp_iload (i := 5) dX6_gives_25 rfl ?_
    refine wp_iald dX6_gives_27 hC_14 ⟨h.1, ?_⟩
    replace h := h.2
    refine wp_istore (i := 6) (Lo' := [some (.ref 12), some (.int x1), some (.int x2), some (.int x3), some (.int x4), some (.int x5), some (.int (σ 14 x5.toNatClampNeg))]) dX6_gives_28 (by decide) rfl rfl ?_
    refine wp_iload (i := 6) dX6_gives_30 rfl ?_
    refine wp_sipush (v := nI 20000) dX6_gives_32 (by decide) ?_
    refine wp_icmpge (tgt := 69) dX6_gives_35 (by decide) ⟨fun q => ?_, fun q => ?_⟩
    · replace h := h.1 q
      exact wp_mask [true, true, true, true, true, true, true] h
    · replace h := h.2 q
      refine wp_iload (i := 4) dX6_gives_38 rfl ?_
      refine wp_aload_n (i := 0) dX6_gives_40 rfl rfl ?_
      refine wp_getR (t := 15) dX6_gives_41 lf_X6_20 hC_12 rfl ?_
      refine wp_alen dX6_gives_44 hC_15 ?_
      refine wp_icmpge (tgt := 69) dX6_gives_45 (by decide) ⟨fun q => ?_, fun q => ?_⟩
      · replace h := h.1 q
        exact wp_mask [true, true, true, true, true, true, true] h
      · replace h := h.2 q
        refine wp_aload_n (i := 0) dX6_gives_48 rfl rfl ?_
        refine wp_getR (t := 15) dX6_gives_49 lf_X6_20 hC_12 rfl ?_
        refine wp_iload (i := 4) dX6_gives_52 rfl ?_
        refine wp_iload (i := 6) dX6_gives_54 rfl ?_
        refine wp_iload_n (i := 1) dX6_gives_56 rfl rfl ?_
        refine wp_iload_n (i := 2) dX6_gives_57 rfl rfl ?_
        refine wp_iload_n (i := 3) dX6_gives_58 rfl rfl ?_
        refine wp_callSI (vs := [.int (σ 14 x5.toNatClampNeg), .int x1, .int x2, .int x3]) (rest := [.int x4, .ref 15]) dX6_gives_59 mS_X6_operand lm_X6_31 rfl rfl (Nat.le_of_ble_eq_true rfl) (CallI.mono h (fun y2 σ1 h => ?_))
        refine wp_iast dX6_gives_62 hC_15 ⟨h.1, ?_⟩
        refine wp_nm (fun σ3 e4 => ?_)
        replace h := h.2 σ3 e4
        refine wp_iinc (i := 4) (v := x4 + nI 1) (Lo' := [some (.ref 12), some (.int x1), some (.int x2), some (.int x3), some (.int (x4 + nI 1)), some (.int x5), some (.int (σ 14 x5.toNatClampNeg))]) dX6_gives_63 rfl (by rfl) (by decide) rfl rfl ?_
        refine wp_goto (tgt := 154) dX6_gives_66 (by decide) ?_
        refine wp_iinc (i := 5) (v := x5 + nI 1) (Lo' := [some (.ref 12), some (.int x1), some (.int x2), some (.int x3), some (.int (x4 + nI 1)), some (.int (x5 + nI 1)), some (.int (σ 14 x5.toNatClampNeg))]) dX6_gives_154 rfl (by rfl) (by decide) rfl rfl ?_
        refine wp_goto (tgt := 6) dX6_gives_157 (by decide) ?_
        exact wp_mask [true, true, true, true, true, true, false] h
set_option maxRecDepth 20000 in
set_option maxHeartbeats 2000000 in
theorem vc_Text_gives_12 {E : KE} {d : Nat} {x1 : Int32} {x2 : Int32} {x3 : Int32} {σ : Sg} {K : Int32 → Sg → Prop} (h : WP E shC mX6_gives (d + 1) 6 [some (.ref 12), some (.int x1), some (.int x2), some (.int x3), some (.int (nI 0)), some (.int (nI 0)), none] [] σ (k_qi K)) : CallI E shC (d + 1) mX6_gives [.ref 12, .int x1, .int x2, .int x3] σ K := by
  refine wp_enter (Lo := [some (.ref 12), some (.int x1), some (.int x2), some (.int x3), none, none, none]) mp_X6_gives (Nat.le_of_ble_eq_true rfl) rfl ?_
  refine wp_iconst (v := nI 0) dX6_gives_0 rfl ?_
  refine wp_istore (i := 4) (Lo' := [some (.ref 12), some (.int x1), some (.int x2), some (.int x3), some (.int (nI 0)), none, none]) dX6_gives_1 (by decide) rfl rfl ?_
  refine wp_iconst (v := nI 0) dX6_gives_3 rfl ?_
  refine wp_istore (i := 5) (Lo' := [some (.ref 12), some (.int x1), some (.int x2), some (.int x3), some (.int (nI 0)), some (.int (nI 0)), none]) dX6_gives_4 (by decide) rfl rfl ?_
  exact wp_mask [true, true, true, true, true, true, false] h
set_option maxRecDepth 20000 in
set_option maxHeartbeats 2000000 in
theorem vc_World_useGives {E : KE} {d : Nat} {x1 : Int32} {x2 : Int32} {x3 : Int32} {x4 : Int32} {σ : Sg} {K : Int32 → Sg → Prop} (h : (¬ x1 = 0 → CallI E shC d mX6_isThere [.ref 16] σ (fun y2 σ1 => (y2 = 0 → K (nI 0) σ1) ∧ (¬ y2 = 0 → CallI E shC d mX6_gives [.ref 16, .int x2, .int x3, .int x4] σ1 (fun y4 σ3 => CallI E shC d mX9_held [.int y4, .int (nI 99)] σ3 (fun y6 σ5 => K y6 σ5))))) ∧ (x1 = 0 → (x3 ≤ (nI 4) → CallI E shC d mX6_isThere [.ref 12] σ (fun y8 σ7 => (y8 = 0 → K (nI 10) σ7) ∧ (¬ y8 = 0 → CallI E shC d mX6_gives [.ref 12, .int x2, .int x3, .int x4] σ7 (fun y10 σ9 => CallI E shC d mX9_held [.int y10, .int (nI 999)] σ9 (fun y12 σ11 => K y12 σ11))))) ∧ (¬ x3 ≤ (nI 4) → CallI E shC d mX6_isThere [.ref 12] σ (fun y14 σ13 => (y14 = 0 → K (nI 15) σ13) ∧ (¬ y14 = 0 → CallI E shC d mX6_gives [.ref 12, .int x2, .int x3, .int x4] σ13 (fun y16 σ15 => CallI E shC d mX9_held [.int y16, .int (nI 999)] σ15 (fun y18 σ17 => K y18 σ17))))))) : CallI E shC (d + 1) mX9_useGives [.ref 1, .int x1, .int x2, .int x3, .int x4] σ K := by
  refine wp_enter (Lo := [some (.ref 1), some (.int x1), some (.int x2), some (.int x3), some (.int x4), none]) mp_X9_useGives (Nat.le_of_ble_eq_true rfl) rfl ?_
  refine wp_iload_n (i := 1) dX9_useGives_0 rfl rfl ?_
  refine wp_ifne (tgt := 51) dX9_useGives_1 (by decide) ⟨fun q => ?_, fun q => ?_⟩
  · replace h := h.1 q
    refine wp_aload_n (i := 0) dX9_useGives_51 rfl rfl ?_
    refine wp_getR (t := 16) dX9_useGives_52 lf_X9_32 hC_1 rfl ?_
    refine wp_callVI (vs := []) (rest := []) dX9_useGives_55 mV_X6_isThere lm_X9_66 hC_16 rfl rfl rfl (Nat.le_of_ble_eq_true rfl) (CallI.mono h (fun y2 σ1 h => ?_))
    refine wp_ifeq (tgt := 80) dX9_useGives_58 (by decide) ⟨fun q => ?_, fun q => ?_⟩
    · replace h := h.1 q
      refine wp_iconst (v := nI 0) dX9_useGives_80 rfl ?_
      exact wp_ireturn dX9_useGives_81 rfl ⟨_, rfl, h⟩
    · replace h := h.2 q
      refine wp_aload_n (i := 0) dX9_useGives_61 rfl rfl ?_
      refine wp_getR (t := 16) dX9_useGives_62 lf_X9_32 hC_1 rfl ?_
      refine wp_iload_n (i := 2) dX9_useGives_65 rfl rfl ?_
      refine wp_iload_n (i := 3) dX9_useGives_66 rfl rfl ?_
      refine wp_iload (i := 4) dX9_useGives_67 rfl ?_
      refine wp_callVI (vs := [.int x2, .int x3, .int x4]) (rest := []) dX9_useGives_69 mV_X6_gives lm_X9_70 hC_16 rfl rfl rfl (Nat.le_of_ble_eq_true rfl) (CallI.mono h (fun y4 σ3 h => ?_))
      refine wp_bipush (v := nI 99) dX9_useGives_72 (by decide) ?_
      refine wp_callSI (vs := [.int y4, .int (nI 99)]) (rest := []) dX9_useGives_74 mS_X9_held lm_X9_74 rfl rfl (Nat.le_of_ble_eq_true rfl) (CallI.mono h (fun y6 σ5 h => ?_))
      refine wp_goto (tgt := 81) dX9_useGives_77 (by decide) ?_
      exact wp_ireturn dX9_useGives_81 rfl ⟨_, rfl, h⟩
  · replace h := h.2 q
    refine wp_iload_n (i := 3) dX9_useGives_4 rfl rfl ?_
    refine wp_iconst (v := nI 4) dX9_useGives_5 rfl ?_
    refine wp_icmple (tgt := 14) dX9_useGives_6 (by decide) ⟨fun q => ?_, fun q => ?_⟩
    · replace h := h.1 q
      refine wp_bipush (v := nI 10) dX9_useGives_14 (by decide) ?_
      refine wp_istore (i := 5) (Lo' := [some (.ref 1), some (.int x1), some (.int x2), some (.int x3), some (.int x4), some (.int (nI 10))]) dX9_useGives_16 (by decide) rfl rfl ?_
      refine wp_aload_n (i := 0) dX9_useGives_18 rfl rfl ?_
      refine wp_getR (t := 12) dX9_useGives_19 lf_X9_28 hC_1 rfl ?_
      refine wp_callVI (vs := []) (rest := []) dX9_useGives_22 mV_X6_isThere lm_X9_66 hC_12 rfl rfl rfl (Nat.le_of_ble_eq_true rfl) (CallI.mono h (fun y8 σ7 h => ?_))
      refine wp_ifeq (tgt := 48) dX9_useGives_25 (by decide) ⟨fun q => ?_, fun q => ?_⟩
      · replace h := h.1 q
        refine wp_iload (i := 5) dX9_useGives_48 rfl ?_
        exact wp_ireturn dX9_useGives_50 rfl ⟨_, rfl, h⟩
      · replace h := h.2 q
        refine wp_aload_n (i := 0) dX9_useGives_28 rfl rfl ?_
        refine wp_getR (t := 12) dX9_useGives_29 lf_X9_28 hC_1 rfl ?_
        refine wp_iload_n (i := 2) dX9_useGives_32 rfl rfl ?_
        refine wp_iload_n (i := 3) dX9_useGives_33 rfl rfl ?_
        refine wp_iload (i := 4) dX9_useGives_34 rfl ?_
        refine wp_callVI (vs := [.int x2, .int x3, .int x4]) (rest := []) dX9_useGives_36 mV_X6_gives lm_X9_70 hC_12 rfl rfl rfl (Nat.le_of_ble_eq_true rfl) (CallI.mono h (fun y10 σ9 h => ?_))
        refine wp_sipush (v := nI 999) dX9_useGives_39 (by decide) ?_
        refine wp_callSI (vs := [.int y10, .int (nI 999)]) (rest := []) dX9_useGives_42 mS_X9_held lm_X9_74 rfl rfl (Nat.le_of_ble_eq_true rfl) (CallI.mono h (fun y12 σ11 h => ?_))
        refine wp_goto (tgt := 50) dX9_useGives_45 (by decide) ?_
        exact wp_ireturn dX9_useGives_50 rfl ⟨_, rfl, h⟩
    · replace h := h.2 q
      refine wp_bipush (v := nI 15) dX9_useGives_9 (by decide) ?_
      refine wp_goto (tgt := 16) dX9_useGives_11 (by decide) ?_
      refine wp_istore (i := 5) (Lo' := [some (.ref 1), some (.int x1), some (.int x2), some (.int x3), some (.int x4), some (.int (nI 15))]) dX9_useGives_16 (by decide) rfl rfl ?_
      refine wp_aload_n (i := 0) dX9_useGives_18 rfl rfl ?_
      refine wp_getR (t := 12) dX9_useGives_19 lf_X9_28 hC_1 rfl ?_
      refine wp_callVI (vs := []) (rest := []) dX9_useGives_22 mV_X6_isThere lm_X9_66 hC_12 rfl rfl rfl (Nat.le_of_ble_eq_true rfl) (CallI.mono h (fun y14 σ13 h => ?_))
      refine wp_ifeq (tgt := 48) dX9_useGives_25 (by decide) ⟨fun q => ?_, fun q => ?_⟩
      · replace h := h.1 q
        refine wp_iload (i := 5) dX9_useGives_48 rfl ?_
        exact wp_ireturn dX9_useGives_50 rfl ⟨_, rfl, h⟩
      · replace h := h.2 q
        refine wp_aload_n (i := 0) dX9_useGives_28 rfl rfl ?_
        refine wp_getR (t := 12) dX9_useGives_29 lf_X9_28 hC_1 rfl ?_
        refine wp_iload_n (i := 2) dX9_useGives_32 rfl rfl ?_
        refine wp_iload_n (i := 3) dX9_useGives_33 rfl rfl ?_
        refine wp_iload (i := 4) dX9_useGives_34 rfl ?_
        refine wp_callVI (vs := [.int x2, .int x3, .int x4]) (rest := []) dX9_useGives_36 mV_X6_gives lm_X9_70 hC_12 rfl rfl rfl (Nat.le_of_ble_eq_true rfl) (CallI.mono h (fun y16 σ15 h => ?_))
        refine wp_sipush (v := nI 999) dX9_useGives_39 (by decide) ?_
        refine wp_callSI (vs := [.int y16, .int (nI 999)]) (rest := []) dX9_useGives_42 mS_X9_held lm_X9_74 rfl rfl (Nat.le_of_ble_eq_true rfl) (CallI.mono h (fun y18 σ17 h => ?_))
        refine wp_goto (tgt := 50) dX9_useGives_45 (by decide) ?_
        exact wp_ireturn dX9_useGives_50 rfl ⟨_, rfl, h⟩
set_option maxRecDepth 20000 in
set_option maxHeartbeats 2000000 in
theorem vc_World_priceOf {E : KE} {d : Nat} {x1 : Int32} {x2 : Int32} {σ : Sg} {K : Int32 → Sg → Prop} (h : CallI E shC d mX1_timesOf [.ref 2, .int x1, .int x2] σ (fun y2 σ1 => CallI E shC d mX9_useGives [.ref 1, .int (nI 0), .int x2, .int (x2 - x2 / (nI 7) * (nI 7)), .int y2] σ1 (fun y4 σ3 => K y4 σ3))) : CallI E shC (d + 1) mX9_priceOf [.ref 1, .int x1, .int x2] σ K := by
  refine wp_enter (Lo := [some (.ref 1), some (.int x1), some (.int x2)]) mp_X9_priceOf (Nat.le_of_ble_eq_true rfl) rfl ?_
  refine wp_aload_n (i := 0) dX9_priceOf_0 rfl rfl ?_
  refine wp_iconst (v := nI 0) dX9_priceOf_1 rfl ?_
  refine wp_iload_n (i := 2) dX9_priceOf_2 rfl rfl ?_
  refine wp_iload_n (i := 2) dX9_priceOf_3 rfl rfl ?_
  refine wp_bipush (v := nI 7) dX9_priceOf_4 (by decide) ?_
  refine wp_irem dX9_priceOf_6 ⟨by decide, ?_⟩
  refine wp_aload_n (i := 0) dX9_priceOf_7 rfl rfl ?_
  refine wp_getR (t := 2) dX9_priceOf_8 lf_X9_12 hC_1 rfl ?_
  refine wp_iload_n (i := 1) dX9_priceOf_11 rfl rfl ?_
  refine wp_iload_n (i := 2) dX9_priceOf_12 rfl rfl ?_
  refine wp_callVI (vs := [.int x1, .int x2]) (rest := [.int (x2 - x2 / (nI 7) * (nI 7)), .int x2, .int (nI 0), .ref 1]) dX9_priceOf_13 mV_X1_timesOf lm_X9_86 hC_2 rfl rfl rfl (Nat.le_of_ble_eq_true rfl) (CallI.mono h (fun y2 σ1 h => ?_))
  refine wp_callVI (vs := [.int (nI 0), .int x2, .int (x2 - x2 / (nI 7) * (nI 7)), .int y2]) (rest := []) dX9_priceOf_16 mV_X9_useGives lm_X9_89 hC_1 rfl rfl rfl (Nat.le_of_ble_eq_true rfl) (CallI.mono h (fun y4 σ3 h => ?_))
  exact wp_ireturn dX9_priceOf_19 rfl ⟨_, rfl, h⟩
set_option maxRecDepth 20000 in
set_option maxHeartbeats 2000000 in
theorem vc_SD_price {E : KE} {d : Nat} {x1 : Int32} {x2 : Int32} {σ : Sg} {K : Int32 → Sg → Prop} (h : CallI E shC d mX1_knows [.ref 2, .int x1] σ (fun y2 σ1 => (y2 = 0 → CallI E shC d mX10_error [.ref 0, .int (nI 1)] σ1 (fun y4 σ3 => K y4 σ3)) ∧ (¬ y2 = 0 → CallI E shC d mX10_isDay [.int x2] σ1 (fun y6 σ5 => (¬ y6 = 0 → CallI E shC d mX9_priceOf [.ref 1, .int x1, .int x2] σ5 (fun y8 σ7 => K y8 σ7)) ∧ (y6 = 0 → CallI E shC d mX10_error [.ref 0, .int (nI 1)] σ5 (fun y10 σ9 => K y10 σ9)))))) : CallI E shC (d + 1) mX10_price [.ref 0, .int x1, .int x2] σ K := by
  refine wp_enter (Lo := [some (.ref 0), some (.int x1), some (.int x2)]) mp_X10_price (Nat.le_of_ble_eq_true rfl) rfl ?_
  refine wp_aload_n (i := 0) dX10_price_0 rfl rfl ?_
  refine wp_getR (t := 1) dX10_price_1 lf_X10_10 hC_0 rfl ?_
  refine wp_getR (t := 2) dX10_price_4 lf_X10_66 hC_1 rfl ?_
  refine wp_iload_n (i := 1) dX10_price_7 rfl rfl ?_
  refine wp_callVI (vs := [.int x1]) (rest := []) dX10_price_8 mV_X1_knows lm_X10_78 hC_2 rfl rfl rfl (Nat.le_of_ble_eq_true rfl) (CallI.mono h (fun y2 σ1 h => ?_))
  refine wp_ifeq (tgt := 21) dX10_price_11 (by decide) ⟨fun q => ?_, fun q => ?_⟩
  · replace h := h.1 q
    refine wp_aload_n (i := 0) dX10_price_21 rfl rfl ?_
    refine wp_iconst (v := nI 1) dX10_price_22 rfl ?_
    refine wp_callVI (vs := [.int (nI 1)]) (rest := []) dX10_price_23 mV_X10_error lm_X10_62 hC_0 rfl rfl rfl (Nat.le_of_ble_eq_true rfl) (CallI.mono h (fun y4 σ3 h => ?_))
    exact wp_ireturn dX10_price_26 rfl ⟨_, rfl, h⟩
  · replace h := h.2 q
    refine wp_iload_n (i := 2) dX10_price_14 rfl rfl ?_
    refine wp_callSI (vs := [.int x2]) (rest := []) dX10_price_15 mS_X10_isDay lm_X10_115 rfl rfl (Nat.le_of_ble_eq_true rfl) (CallI.mono h (fun y6 σ5 h => ?_))
    refine wp_ifne (tgt := 27) dX10_price_18 (by decide) ⟨fun q => ?_, fun q => ?_⟩
    · replace h := h.1 q
      refine wp_aload_n (i := 0) dX10_price_27 rfl rfl ?_
      refine wp_getR (t := 1) dX10_price_28 lf_X10_10 hC_0 rfl ?_
      refine wp_iload_n (i := 1) dX10_price_31 rfl rfl ?_
      refine wp_iload_n (i := 2) dX10_price_32 rfl rfl ?_
      refine wp_callVI (vs := [.int x1, .int x2]) (rest := []) dX10_price_33 mV_X9_priceOf lm_X10_125 hC_1 rfl rfl rfl (Nat.le_of_ble_eq_true rfl) (CallI.mono h (fun y8 σ7 h => ?_))
      exact wp_ireturn dX10_price_36 rfl ⟨_, rfl, h⟩
    · replace h := h.2 q
      refine wp_aload_n (i := 0) dX10_price_21 rfl rfl ?_
      refine wp_iconst (v := nI 1) dX10_price_22 rfl ?_
      refine wp_callVI (vs := [.int (nI 1)]) (rest := []) dX10_price_23 mV_X10_error lm_X10_62 hC_0 rfl rfl rfl (Nat.le_of_ble_eq_true rfl) (CallI.mono h (fun y10 σ9 h => ?_))
      exact wp_ireturn dX10_price_26 rfl ⟨_, rfl, h⟩
set_option maxRecDepth 20000 in
set_option maxHeartbeats 2000000 in
theorem vc_People_areTwo {E : KE} {d : Nat} {x1 : Int32} {x2 : Int32} {σ : Sg} {K : Int32 → Sg → Prop} (h : CallI E shC d mX1_knows [.ref 2, .int x1] σ (fun y2 σ1 => (y2 = 0 → K (nI 0) σ1) ∧ (¬ y2 = 0 → CallI E shC d mX1_knows [.ref 2, .int x2] σ1 (fun y4 σ3 => (y4 = 0 → K (nI 0) σ3) ∧ (¬ y4 = 0 → (x1 = x2 → K (nI 0) σ3) ∧ (¬ x1 = x2 → K (nI 1) σ3)))))) : CallI E shC (d + 1) mX1_areTwo [.ref 2, .int x1, .int x2] σ K := by
  refine wp_enter (Lo := [some (.ref 2), some (.int x1), some (.int x2)]) mp_X1_areTwo (Nat.le_of_ble_eq_true rfl) rfl ?_
  refine wp_aload_n (i := 0) dX1_areTwo_0 rfl rfl ?_
  refine wp_iload_n (i := 1) dX1_areTwo_1 rfl rfl ?_
  refine wp_callVI (vs := [.int x1]) (rest := []) dX1_areTwo_2 mV_X1_knows lm_X1_31 hC_2 rfl rfl rfl (Nat.le_of_ble_eq_true rfl) (CallI.mono h (fun y2 σ1 h => ?_))
  refine wp_ifeq (tgt := 25) dX1_areTwo_5 (by decide) ⟨fun q => ?_, fun q => ?_⟩
  · replace h := h.1 q
    refine wp_iconst (v := nI 0) dX1_areTwo_25 rfl ?_
    exact wp_zreturn dX1_areTwo_26 rfl ⟨rfl, _, rfl, h⟩
  · replace h := h.2 q
    refine wp_aload_n (i := 0) dX1_areTwo_8 rfl rfl ?_
    refine wp_iload_n (i := 2) dX1_areTwo_9 rfl rfl ?_
    refine wp_callVI (vs := [.int x2]) (rest := []) dX1_areTwo_10 mV_X1_knows lm_X1_31 hC_2 rfl rfl rfl (Nat.le_of_ble_eq_true rfl) (CallI.mono h (fun y4 σ3 h => ?_))
    refine wp_ifeq (tgt := 25) dX1_areTwo_13 (by decide) ⟨fun q => ?_, fun q => ?_⟩
    · replace h := h.1 q
      refine wp_iconst (v := nI 0) dX1_areTwo_25 rfl ?_
      exact wp_zreturn dX1_areTwo_26 rfl ⟨rfl, _, rfl, h⟩
    · replace h := h.2 q
      refine wp_iload_n (i := 1) dX1_areTwo_16 rfl rfl ?_
      refine wp_iload_n (i := 2) dX1_areTwo_17 rfl rfl ?_
      refine wp_icmpeq (tgt := 25) dX1_areTwo_18 (by decide) ⟨fun q => ?_, fun q => ?_⟩
      · replace h := h.1 q
        refine wp_iconst (v := nI 0) dX1_areTwo_25 rfl ?_
        exact wp_zreturn dX1_areTwo_26 rfl ⟨rfl, _, rfl, h⟩
      · replace h := h.2 q
        refine wp_iconst (v := nI 1) dX1_areTwo_21 rfl ?_
        refine wp_goto (tgt := 26) dX1_areTwo_22 (by decide) ?_
        exact wp_zreturn dX1_areTwo_26 rfl ⟨rfl, _, rfl, h⟩
set_option maxRecDepth 20000 in
set_option maxHeartbeats 2000000 in
theorem vc_World_dayCanPass {E : KE} {d : Nat} {x1 : Int32} {x2 : Int32} {x3 : Int32} {σ : Sg} {K : Int32 → Sg → Prop} (h : CallI E shC d mX1_timesOf [.ref 2, .int x1, .int x3] σ (fun y2 σ1 => (y2 ≤ 0 → K (nI 0) σ1) ∧ (¬ y2 ≤ 0 → CallI E shC d mX1_timesOf [.ref 2, .int x2, .int x3] σ1 (fun y4 σ3 => ((nI 9) ≤ y4 → K (nI 0) σ3) ∧ (¬ (nI 9) ≤ y4 → K (nI 1) σ3))))) : CallI E shC (d + 1) mX9_dayCanPass [.ref 1, .int x1, .int x2, .int x3] σ K := by
  refine wp_enter (Lo := [some (.ref 1), some (.int x1), some (.int x2), some (.int x3)]) mp_X9_dayCanPass (Nat.le_of_ble_eq_true rfl) rfl ?_
  refine wp_aload_n (i := 0) dX9_dayCanPass_0 rfl rfl ?_
  refine wp_getR (t := 2) dX9_dayCanPass_1 lf_X9_12 hC_1 rfl ?_
  refine wp_iload_n (i := 1) dX9_dayCanPass_4 rfl rfl ?_
  refine wp_iload_n (i := 3) dX9_dayCanPass_5 rfl rfl ?_
  refine wp_callVI (vs := [.int x1, .int x3]) (rest := []) dX9_dayCanPass_6 mV_X1_timesOf lm_X9_86 hC_2 rfl rfl rfl (Nat.le_of_ble_eq_true rfl) (CallI.mono h (fun y2 σ1 h => ?_))
  refine wp_ifle (tgt := 30) dX9_dayCanPass_9 (by decide) ⟨fun q => ?_, fun q => ?_⟩
  · replace h := h.1 q
    refine wp_iconst (v := nI 0) dX9_dayCanPass_30 rfl ?_
    exact wp_zreturn dX9_dayCanPass_31 rfl ⟨rfl, _, rfl, h⟩
  · replace h := h.2 q
    refine wp_aload_n (i := 0) dX9_dayCanPass_12 rfl rfl ?_
    refine wp_getR (t := 2) dX9_dayCanPass_13 lf_X9_12 hC_1 rfl ?_
    refine wp_iload_n (i := 2) dX9_dayCanPass_16 rfl rfl ?_
    refine wp_iload_n (i := 3) dX9_dayCanPass_17 rfl rfl ?_
    refine wp_callVI (vs := [.int x2, .int x3]) (rest := []) dX9_dayCanPass_18 mV_X1_timesOf lm_X9_86 hC_2 rfl rfl rfl (Nat.le_of_ble_eq_true rfl) (CallI.mono h (fun y4 σ3 h => ?_))
    refine wp_bipush (v := nI 9) dX9_dayCanPass_21 (by decide) ?_
    refine wp_icmpge (tgt := 30) dX9_dayCanPass_23 (by decide) ⟨fun q => ?_, fun q => ?_⟩
    · replace h := h.1 q
      refine wp_iconst (v := nI 0) dX9_dayCanPass_30 rfl ?_
      exact wp_zreturn dX9_dayCanPass_31 rfl ⟨rfl, _, rfl, h⟩
    · replace h := h.2 q
      refine wp_iconst (v := nI 1) dX9_dayCanPass_26 rfl ?_
      refine wp_goto (tgt := 31) dX9_dayCanPass_27 (by decide) ?_
      exact wp_zreturn dX9_dayCanPass_31 rfl ⟨rfl, _, rfl, h⟩
set_option maxRecDepth 20000 in
set_option maxHeartbeats 2000000 in
theorem vc_World_canPay {E : KE} {d : Nat} {x1 : Int32} {x2 : Int32} {x3 : Int32} {σ : Sg} {K : Int32 → Sg → Prop} (h : vp_in x2 6 ∧ (((σ 6 x2.toNatClampNeg) < x3 → K (nI 0) σ) ∧ (¬ (σ 6 x2.toNatClampNeg) < x3 → vp_in x1 6 ∧ (((nI 9999) < ((σ 6 x1.toNatClampNeg) + x3) → K (nI 0) σ) ∧ (¬ (nI 9999) < ((σ 6 x1.toNatClampNeg) + x3) → K (nI 1) σ))))) : CallI E shC d mX9_canPay [.ref 1, .int x1, .int x2, .int x3] σ K := by
  refine wp_enter (Lo := [some (.ref 1), some (.int x1), some (.int x2), some (.int x3)]) mp_X9_canPay (Nat.le_of_ble_eq_true rfl) rfl ?_
  refine wp_aload_n (i := 0) dX9_canPay_0 rfl rfl ?_
  refine wp_getR (t := 2) dX9_canPay_1 lf_X9_12 hC_1 rfl ?_
  refine wp_getR (t := 6) dX9_canPay_4 lf_X9_103 hC_2 rfl ?_
  refine wp_iload_n (i := 2) dX9_canPay_7 rfl rfl ?_
  refine wp_iald dX9_canPay_8 hC_6 ⟨h.1, ?_⟩
  replace h := h.2
  refine wp_iload_n (i := 3) dX9_canPay_9 rfl rfl ?_
  refine wp_icmplt (tgt := 34) dX9_canPay_10 (by decide) ⟨fun q => ?_, fun q => ?_⟩
  · replace h := h.1 q
    refine wp_iconst (v := nI 0) dX9_canPay_34 rfl ?_
    exact wp_zreturn dX9_canPay_35 rfl ⟨rfl, _, rfl, h⟩
  · replace h := h.2 q
    refine wp_aload_n (i := 0) dX9_canPay_13 rfl rfl ?_
    refine wp_getR (t := 2) dX9_canPay_14 lf_X9_12 hC_1 rfl ?_
    refine wp_getR (t := 6) dX9_canPay_17 lf_X9_103 hC_2 rfl ?_
    refine wp_iload_n (i := 1) dX9_canPay_20 rfl rfl ?_
    refine wp_iald dX9_canPay_21 hC_6 ⟨h.1, ?_⟩
    replace h := h.2
    refine wp_iload_n (i := 3) dX9_canPay_22 rfl rfl ?_
    refine wp_iadd dX9_canPay_23 ?_
    refine wp_sipush (v := nI 9999) dX9_canPay_24 (by decide) ?_
    refine wp_icmpgt (tgt := 34) dX9_canPay_27 (by decide) ⟨fun q => ?_, fun q => ?_⟩
    · replace h := h.1 q
      refine wp_iconst (v := nI 0) dX9_canPay_34 rfl ?_
      exact wp_zreturn dX9_canPay_35 rfl ⟨rfl, _, rfl, h⟩
    · replace h := h.2 q
      refine wp_iconst (v := nI 1) dX9_canPay_30 rfl ?_
      refine wp_goto (tgt := 35) dX9_canPay_31 (by decide) ?_
      exact wp_zreturn dX9_canPay_35 rfl ⟨rfl, _, rfl, h⟩
set_option maxRecDepth 20000 in
set_option maxHeartbeats 2000000 in
theorem vc_World_saleCanBe {E : KE} {d : Nat} {x1 : Int32} {x2 : Int32} {x3 : Int32} {σ : Sg} {K : Int32 → Sg → Prop} (h : CallI E shC d mX9_dayCanPass [.ref 1, .int x1, .int x2, .int x3] σ (fun y2 σ1 => (y2 = 0 → K (nI 0) σ1) ∧ (¬ y2 = 0 → CallI E shC d mX9_priceOf [.ref 1, .int x1, .int x3] σ1 (fun y4 σ3 => CallI E shC d mX9_canPay [.ref 1, .int x1, .int x2, .int y4] σ3 (fun y6 σ5 => (y6 = 0 → K (nI 0) σ5) ∧ (¬ y6 = 0 → K (nI 1) σ5)))))) : CallI E shC (d + 1) mX9_saleCanBe [.ref 1, .int x1, .int x2, .int x3] σ K := by
  refine wp_enter (Lo := [some (.ref 1), some (.int x1), some (.int x2), some (.int x3)]) mp_X9_saleCanBe (Nat.le_of_ble_eq_true rfl) rfl ?_
  refine wp_aload_n (i := 0) dX9_saleCanBe_0 rfl rfl ?_
  refine wp_iload_n (i := 1) dX9_saleCanBe_1 rfl rfl ?_
  refine wp_iload_n (i := 2) dX9_saleCanBe_2 rfl rfl ?_
  refine wp_iload_n (i := 3) dX9_saleCanBe_3 rfl rfl ?_
  refine wp_callVI (vs := [.int x1, .int x2, .int x3]) (rest := []) dX9_saleCanBe_4 mV_X9_dayCanPass lm_X9_93 hC_1 rfl rfl rfl (Nat.le_of_ble_eq_true rfl) (CallI.mono h (fun y2 σ1 h => ?_))
  refine wp_ifeq (tgt := 29) dX9_saleCanBe_7 (by decide) ⟨fun q => ?_, fun q => ?_⟩
  · replace h := h.1 q
    refine wp_iconst (v := nI 0) dX9_saleCanBe_29 rfl ?_
    exact wp_zreturn dX9_saleCanBe_30 rfl ⟨rfl, _, rfl, h⟩
  · replace h := h.2 q
    refine wp_aload_n (i := 0) dX9_saleCanBe_10 rfl rfl ?_
    refine wp_iload_n (i := 1) dX9_saleCanBe_11 rfl rfl ?_
    refine wp_iload_n (i := 2) dX9_saleCanBe_12 rfl rfl ?_
    refine wp_aload_n (i := 0) dX9_saleCanBe_13 rfl rfl ?_
    refine wp_iload_n (i := 1) dX9_saleCanBe_14 rfl rfl ?_
    refine wp_iload_n (i := 3) dX9_saleCanBe_15 rfl rfl ?_
    refine wp_callVI (vs := [.int x1, .int x3]) (rest := [.int x2, .int x1, .ref 1]) dX9_saleCanBe_16 mV_X9_priceOf lm_X9_97 hC_1 rfl rfl rfl (Nat.le_of_ble_eq_true rfl) (CallI.mono h (fun y4 σ3 h => ?_))
    refine wp_callVI (vs := [.int x1, .int x2, .int y4]) (rest := []) dX9_saleCanBe_19 mV_X9_canPay lm_X9_100 hC_1 rfl rfl rfl (Nat.le_of_ble_eq_true rfl) (CallI.mono h (fun y6 σ5 h => ?_))
    refine wp_ifeq (tgt := 29) dX9_saleCanBe_22 (by decide) ⟨fun q => ?_, fun q => ?_⟩
    · replace h := h.1 q
      refine wp_iconst (v := nI 0) dX9_saleCanBe_29 rfl ?_
      exact wp_zreturn dX9_saleCanBe_30 rfl ⟨rfl, _, rfl, h⟩
    · replace h := h.2 q
      refine wp_iconst (v := nI 1) dX9_saleCanBe_25 rfl ?_
      refine wp_goto (tgt := 30) dX9_saleCanBe_26 (by decide) ?_
      exact wp_zreturn dX9_saleCanBe_30 rfl ⟨rfl, _, rfl, h⟩
set_option maxRecDepth 20000 in
set_option maxHeartbeats 2000000 in
theorem vc_World_makeSale {E : KE} {d : Nat} {x1 : Int32} {x2 : Int32} {x3 : Int32} {σ : Sg} {K : Int32 → Sg → Prop} (h : CallI E shC d mX9_priceOf [.ref 1, .int x1, .int x3] σ (fun y2 σ1 => vp_in x2 6 ∧ (vp_in x2 6 ∧ (∀ σ3, σ3 = k_put σ1 6 (upd (σ1 6) x2.toNatClampNeg ((σ1 6 x2.toNatClampNeg) - y2)) → vp_in x1 6 ∧ (vp_in x1 6 ∧ (∀ σ5, σ5 = k_put σ3 6 (upd (σ3 6) x1.toNatClampNeg ((σ3 6 x1.toNatClampNeg) + y2)) → CallI E shC d mX1_timesOf [.ref 2, .int x1, .int x3] σ5 (fun y8 σ7 => CallN E shC d mX1_setTimes [.ref 2, .int x1, .int x3, .int (y8 - (nI 1))] σ7 (fun σ9 => CallI E shC d mX1_timesOf [.ref 2, .int x2, .int x3] σ9 (fun y11 σ10 => CallN E shC d mX1_setTimes [.ref 2, .int x2, .int x3, .int (y11 + (nI 1))] σ10 (fun σ12 => K y2 σ12)))))))))) : CallI E shC (d + 1) mX9_makeSale [.ref 1, .int x1, .int x2, .int x3] σ K := by
  refine wp_enter (Lo := [some (.ref 1), some (.int x1), some (.int x2), some (.int x3), none]) mp_X9_makeSale (Nat.le_of_ble_eq_true rfl) rfl ?_
  refine wp_aload_n (i := 0) dX9_makeSale_0 rfl rfl ?_
  refine wp_iload_n (i := 1) dX9_makeSale_1 rfl rfl ?_
  refine wp_iload_n (i := 3) dX9_makeSale_2 rfl rfl ?_
  refine wp_callVI (vs := [.int x1, .int x3]) (rest := []) dX9_makeSale_3 mV_X9_priceOf lm_X9_97 hC_1 rfl rfl rfl (Nat.le_of_ble_eq_true rfl) (CallI.mono h (fun y2 σ1 h => ?_))
  refine wp_istore (i := 4) (Lo' := [some (.ref 1), some (.int x1), some (.int x2), some (.int x3), some (.int y2)]) dX9_makeSale_6 (by decide) rfl rfl ?_
  refine wp_aload_n (i := 0) dX9_makeSale_8 rfl rfl ?_
  refine wp_getR (t := 2) dX9_makeSale_9 lf_X9_12 hC_1 rfl ?_
  refine wp_getR (t := 6) dX9_makeSale_12 lf_X9_103 hC_2 rfl ?_
  refine wp_iload_n (i := 2) dX9_makeSale_15 rfl rfl ?_
  refine wp_dup2 dX9_makeSale_16 rfl rfl ?_
  refine wp_iald dX9_makeSale_17 hC_6 ⟨h.1, ?_⟩
  replace h := h.2
  refine wp_iload (i := 4) dX9_makeSale_18 rfl ?_
  refine wp_isub dX9_makeSale_20 ?_
  refine wp_iast dX9_makeSale_21 hC_6 ⟨h.1, ?_⟩
  refine wp_nm (fun σ3 e4 => ?_)
  replace h := h.2 σ3 e4
  refine wp_aload_n (i := 0) dX9_makeSale_22 rfl rfl ?_
  refine wp_getR (t := 2) dX9_makeSale_23 lf_X9_12 hC_1 rfl ?_
  refine wp_getR (t := 6) dX9_makeSale_26 lf_X9_103 hC_2 rfl ?_
  refine wp_iload_n (i := 1) dX9_makeSale_29 rfl rfl ?_
  refine wp_dup2 dX9_makeSale_30 rfl rfl ?_
  refine wp_iald dX9_makeSale_31 hC_6 ⟨h.1, ?_⟩
  replace h := h.2
  refine wp_iload (i := 4) dX9_makeSale_32 rfl ?_
  refine wp_iadd dX9_makeSale_34 ?_
  refine wp_iast dX9_makeSale_35 hC_6 ⟨h.1, ?_⟩
  refine wp_nm (fun σ5 e6 => ?_)
  replace h := h.2 σ5 e6
  refine wp_aload_n (i := 0) dX9_makeSale_36 rfl rfl ?_
  refine wp_getR (t := 2) dX9_makeSale_37 lf_X9_12 hC_1 rfl ?_
  refine wp_iload_n (i := 1) dX9_makeSale_40 rfl rfl ?_
  refine wp_iload_n (i := 3) dX9_makeSale_41 rfl rfl ?_
  refine wp_aload_n (i := 0) dX9_makeSale_42 rfl rfl ?_
  refine wp_getR (t := 2) dX9_makeSale_43 lf_X9_12 hC_1 rfl ?_
  refine wp_iload_n (i := 1) dX9_makeSale_46 rfl rfl ?_
  refine wp_iload_n (i := 3) dX9_makeSale_47 rfl rfl ?_
  refine wp_callVI (vs := [.int x1, .int x3]) (rest := [.int x3, .int x1, .ref 2]) dX9_makeSale_48 mV_X1_timesOf lm_X9_86 hC_2 rfl rfl rfl (Nat.le_of_ble_eq_true rfl) (CallI.mono h (fun y8 σ7 h => ?_))
  refine wp_iconst (v := nI 1) dX9_makeSale_51 rfl ?_
  refine wp_isub dX9_makeSale_52 ?_
  refine wp_callVN (vs := [.int x1, .int x3, .int (y8 - (nI 1))]) (rest := []) dX9_makeSale_53 mV_X1_setTimes lm_X9_107 hC_2 rfl rfl rfl (Nat.le_of_ble_eq_true rfl) (CallN.mono h (fun σ9 h => ?_))
  refine wp_aload_n (i := 0) dX9_makeSale_56 rfl rfl ?_
  refine wp_getR (t := 2) dX9_makeSale_57 lf_X9_12 hC_1 rfl ?_
  refine wp_iload_n (i := 2) dX9_makeSale_60 rfl rfl ?_
  refine wp_iload_n (i := 3) dX9_makeSale_61 rfl rfl ?_
  refine wp_aload_n (i := 0) dX9_makeSale_62 rfl rfl ?_
  refine wp_getR (t := 2) dX9_makeSale_63 lf_X9_12 hC_1 rfl ?_
  refine wp_iload_n (i := 2) dX9_makeSale_66 rfl rfl ?_
  refine wp_iload_n (i := 3) dX9_makeSale_67 rfl rfl ?_
  refine wp_callVI (vs := [.int x2, .int x3]) (rest := [.int x3, .int x2, .ref 2]) dX9_makeSale_68 mV_X1_timesOf lm_X9_86 hC_2 rfl rfl rfl (Nat.le_of_ble_eq_true rfl) (CallI.mono h (fun y11 σ10 h => ?_))
  refine wp_iconst (v := nI 1) dX9_makeSale_71 rfl ?_
  refine wp_iadd dX9_makeSale_72 ?_
  refine wp_callVN (vs := [.int x2, .int x3, .int (y11 + (nI 1))]) (rest := []) dX9_makeSale_73 mV_X1_setTimes lm_X9_107 hC_2 rfl rfl rfl (Nat.le_of_ble_eq_true rfl) (CallN.mono h (fun σ12 h => ?_))
  refine wp_iload (i := 4) dX9_makeSale_76 rfl ?_
  exact wp_ireturn dX9_makeSale_78 rfl ⟨_, rfl, h⟩
set_option maxRecDepth 20000 in
set_option maxHeartbeats 2000000 in
theorem vc_SD_sell {E : KE} {d : Nat} {x1 : Int32} {x2 : Int32} {x3 : Int32} {σ : Sg} {K : Int32 → Sg → Prop} (h : CallI E shC d mX1_areTwo [.ref 2, .int x1, .int x2] σ (fun y2 σ1 => (y2 = 0 → CallI E shC d mX10_error [.ref 0, .int (nI 1)] σ1 (fun y4 σ3 => K y4 σ3)) ∧ (¬ y2 = 0 → CallI E shC d mX10_isDay [.int x3] σ1 (fun y6 σ5 => (¬ y6 = 0 → CallI E shC d mX9_saleCanBe [.ref 1, .int x1, .int x2, .int x3] σ5 (fun y8 σ7 => (¬ y8 = 0 → CallI E shC d mX9_makeSale [.ref 1, .int x1, .int x2, .int x3] σ7 (fun y10 σ9 => K y10 σ9)) ∧ (y8 = 0 → CallI E shC d mX10_error [.ref 0, .int (nI 3)] σ7 (fun y12 σ11 => K y12 σ11)))) ∧ (y6 = 0 → CallI E shC d mX10_error [.ref 0, .int (nI 1)] σ5 (fun y14 σ13 => K y14 σ13)))))) : CallI E shC (d + 1) mX10_sell [.ref 0, .int x1, .int x2, .int x3] σ K := by
  refine wp_enter (Lo := [some (.ref 0), some (.int x1), some (.int x2), some (.int x3)]) mp_X10_sell (Nat.le_of_ble_eq_true rfl) rfl ?_
  refine wp_aload_n (i := 0) dX10_sell_0 rfl rfl ?_
  refine wp_getR (t := 1) dX10_sell_1 lf_X10_10 hC_0 rfl ?_
  refine wp_getR (t := 2) dX10_sell_4 lf_X10_66 hC_1 rfl ?_
  refine wp_iload_n (i := 1) dX10_sell_7 rfl rfl ?_
  refine wp_iload_n (i := 2) dX10_sell_8 rfl rfl ?_
  refine wp_callVI (vs := [.int x1, .int x2]) (rest := []) dX10_sell_9 mV_X1_areTwo lm_X10_128 hC_2 rfl rfl rfl (Nat.le_of_ble_eq_true rfl) (CallI.mono h (fun y2 σ1 h => ?_))
  refine wp_ifeq (tgt := 22) dX10_sell_12 (by decide) ⟨fun q => ?_, fun q => ?_⟩
  · replace h := h.1 q
    refine wp_aload_n (i := 0) dX10_sell_22 rfl rfl ?_
    refine wp_iconst (v := nI 1) dX10_sell_23 rfl ?_
    refine wp_callVI (vs := [.int (nI 1)]) (rest := []) dX10_sell_24 mV_X10_error lm_X10_62 hC_0 rfl rfl rfl (Nat.le_of_ble_eq_true rfl) (CallI.mono h (fun y4 σ3 h => ?_))
    exact wp_ireturn dX10_sell_27 rfl ⟨_, rfl, h⟩
  · replace h := h.2 q
    refine wp_iload_n (i := 3) dX10_sell_15 rfl rfl ?_
    refine wp_callSI (vs := [.int x3]) (rest := []) dX10_sell_16 mS_X10_isDay lm_X10_115 rfl rfl (Nat.le_of_ble_eq_true rfl) (CallI.mono h (fun y6 σ5 h => ?_))
    refine wp_ifne (tgt := 28) dX10_sell_19 (by decide) ⟨fun q => ?_, fun q => ?_⟩
    · replace h := h.1 q
      refine wp_aload_n (i := 0) dX10_sell_28 rfl rfl ?_
      refine wp_getR (t := 1) dX10_sell_29 lf_X10_10 hC_0 rfl ?_
      refine wp_iload_n (i := 1) dX10_sell_32 rfl rfl ?_
      refine wp_iload_n (i := 2) dX10_sell_33 rfl rfl ?_
      refine wp_iload_n (i := 3) dX10_sell_34 rfl rfl ?_
      refine wp_callVI (vs := [.int x1, .int x2, .int x3]) (rest := []) dX10_sell_35 mV_X9_saleCanBe lm_X10_131 hC_1 rfl rfl rfl (Nat.le_of_ble_eq_true rfl) (CallI.mono h (fun y8 σ7 h => ?_))
      refine wp_ifne (tgt := 47) dX10_sell_38 (by decide) ⟨fun q => ?_, fun q => ?_⟩
      · replace h := h.1 q
        refine wp_aload_n (i := 0) dX10_sell_47 rfl rfl ?_
        refine wp_getR (t := 1) dX10_sell_48 lf_X10_10 hC_0 rfl ?_
        refine wp_iload_n (i := 1) dX10_sell_51 rfl rfl ?_
        refine wp_iload_n (i := 2) dX10_sell_52 rfl rfl ?_
        refine wp_iload_n (i := 3) dX10_sell_53 rfl rfl ?_
        refine wp_callVI (vs := [.int x1, .int x2, .int x3]) (rest := []) dX10_sell_54 mV_X9_makeSale lm_X10_134 hC_1 rfl rfl rfl (Nat.le_of_ble_eq_true rfl) (CallI.mono h (fun y10 σ9 h => ?_))
        exact wp_ireturn dX10_sell_57 rfl ⟨_, rfl, h⟩
      · replace h := h.2 q
        refine wp_aload_n (i := 0) dX10_sell_41 rfl rfl ?_
        refine wp_iconst (v := nI 3) dX10_sell_42 rfl ?_
        refine wp_callVI (vs := [.int (nI 3)]) (rest := []) dX10_sell_43 mV_X10_error lm_X10_62 hC_0 rfl rfl rfl (Nat.le_of_ble_eq_true rfl) (CallI.mono h (fun y12 σ11 h => ?_))
        exact wp_ireturn dX10_sell_46 rfl ⟨_, rfl, h⟩
    · replace h := h.2 q
      refine wp_aload_n (i := 0) dX10_sell_22 rfl rfl ?_
      refine wp_iconst (v := nI 1) dX10_sell_23 rfl ?_
      refine wp_callVI (vs := [.int (nI 1)]) (rest := []) dX10_sell_24 mV_X10_error lm_X10_62 hC_0 rfl rfl rfl (Nat.le_of_ble_eq_true rfl) (CallI.mono h (fun y14 σ13 h => ?_))
      exact wp_ireturn dX10_sell_27 rfl ⟨_, rfl, h⟩
set_option maxRecDepth 20000 in
set_option maxHeartbeats 2000000 in
theorem vb_World_weekCanBe_9 {E : KE} {d : Nat} {x1 : Int32} {x2 : Int32} {x3 : Int32} {x4 : Int32} {x5 : Int32} {σ : Sg} {K : Int32 → Sg → Prop} (h : (((x3 + (nI 1)) * (nI 7)) ≤ x5 → CallI E shC d mX9_canPay [.ref 1, .int x1, .int x2, .int x4] σ (fun y2 σ1 => (y2 = 0 ∨ y2 = 1) ∧ K y2 σ1)) ∧ (¬ ((x3 + (nI 1)) * (nI 7)) ≤ x5 → CallI E shC d mX9_dayCanPass [.ref 1, .int x1, .int x2, .int x5] σ (fun y4 σ3 => (¬ y4 = 0 → CallI E shC d mX9_priceOf [.ref 1, .int x1, .int x5] σ3 (fun y6 σ5 => WP E shC mX9_weekCanBe (d + 1) 9 [some (.ref 1), some (.int x1), some (.int x2), some (.int x3), some (.int (x4 + y6)), some (.int (x5 + nI 1))] [] σ5 (k_qi K))) ∧ (y4 = 0 → K (nI 0) σ3)))) : WP E shC mX9_weekCanBe (d + 1) 9 [some (.ref 1), some (.int x1), some (.int x2), some (.int x3), some (.int x4), some (.int x5)] [] σ (k_qi K) := by
  refine wp_iload (i := 5) dX9_weekCanBe_9 rfl ?_
  refine wp_iload_n (i := 3) dX9_weekCanBe_11 rfl rfl ?_
  refine wp_iconst (v := nI 1) dX9_weekCanBe_12 rfl ?_
  refine wp_iadd dX9_weekCanBe_13 ?_
  refine wp_bipush (v := nI 7) dX9_weekCanBe_14 (by decide) ?_
  refine wp_imul dX9_weekCanBe_16 ?_
  refine wp_icmpge (tgt := 51) dX9_weekCanBe_17 (by decide) ⟨fun q => ?_, fun q => ?_⟩
  · replace h := h.1 q
    refine wp_aload_n (i := 0) dX9_weekCanBe_51 rfl rfl ?_
    refine wp_iload_n (i := 1) dX9_weekCanBe_52 rfl rfl ?_
    refine wp_iload_n (i := 2) dX9_weekCanBe_53 rfl rfl ?_
    refine wp_iload (i := 4) dX9_weekCanBe_54 rfl ?_
    refine wp_callVI (vs := [.int x1, .int x2, .int x4]) (rest := []) dX9_weekCanBe_56 mV_X9_canPay lm_X9_100 hC_1 rfl rfl rfl (Nat.le_of_ble_eq_true rfl) (CallI.mono h (fun y2 σ1 h => ?_))
    exact wp_zreturn dX9_weekCanBe_59 rfl ⟨k_bool h.1, _, rfl, h.2⟩
  · replace h := h.2 q
    refine wp_aload_n (i := 0) dX9_weekCanBe_20 rfl rfl ?_
    refine wp_iload_n (i := 1) dX9_weekCanBe_21 rfl rfl ?_
    refine wp_iload_n (i := 2) dX9_weekCanBe_22 rfl rfl ?_
    refine wp_iload (i := 5) dX9_weekCanBe_23 rfl ?_
    refine wp_callVI (vs := [.int x1, .int x2, .int x5]) (rest := []) dX9_weekCanBe_25 mV_X9_dayCanPass lm_X9_93 hC_1 rfl rfl rfl (Nat.le_of_ble_eq_true rfl) (CallI.mono h (fun y4 σ3 h => ?_))
    refine wp_ifne (tgt := 33) dX9_weekCanBe_28 (by decide) ⟨fun q => ?_, fun q => ?_⟩
    · replace h := h.1 q
      refine wp_iload (i := 4) dX9_weekCanBe_33 rfl ?_
      refine wp_aload_n (i := 0) dX9_weekCanBe_35 rfl rfl ?_
      refine wp_iload_n (i := 1) dX9_weekCanBe_36 rfl rfl ?_
      refine wp_iload (i := 5) dX9_weekCanBe_37 rfl ?_
      refine wp_callVI (vs := [.int x1, .int x5]) (rest := [.int x4]) dX9_weekCanBe_39 mV_X9_priceOf lm_X9_97 hC_1 rfl rfl rfl (Nat.le_of_ble_eq_true rfl) (CallI.mono h (fun y6 σ5 h => ?_))
      refine wp_iadd dX9_weekCanBe_42 ?_
      refine wp_istore (i := 4) (Lo' := [some (.ref 1), some (.int x1), some (.int x2), some (.int x3), some (.int (x4 + y6)), some (.int x5)]) dX9_weekCanBe_43 (by decide) rfl rfl ?_
      refine wp_iinc (i := 5) (v := x5 + nI 1) (Lo' := [some (.ref 1), some (.int x1), some (.int x2), some (.int x3), some (.int (x4 + y6)), some (.int (x5 + nI 1))]) dX9_weekCanBe_45 rfl (by rfl) (by decide) rfl rfl ?_
      refine wp_goto (tgt := 9) dX9_weekCanBe_48 (by decide) ?_
      exact wp_mask [true, true, true, true, true, true] h
    · replace h := h.2 q
      refine wp_iconst (v := nI 0) dX9_weekCanBe_31 rfl ?_
      exact wp_zreturn dX9_weekCanBe_32 rfl ⟨rfl, _, rfl, h⟩
set_option maxRecDepth 20000 in
set_option maxHeartbeats 2000000 in
theorem vc_World_weekCanBe {E : KE} {d : Nat} {x1 : Int32} {x2 : Int32} {x3 : Int32} {σ : Sg} {K : Int32 → Sg → Prop} (h : WP E shC mX9_weekCanBe (d + 1) 9 [some (.ref 1), some (.int x1), some (.int x2), some (.int x3), some (.int (nI 0)), some (.int (x3 * (nI 7)))] [] σ (k_qi K)) : CallI E shC (d + 1) mX9_weekCanBe [.ref 1, .int x1, .int x2, .int x3] σ K := by
  refine wp_enter (Lo := [some (.ref 1), some (.int x1), some (.int x2), some (.int x3), none, none]) mp_X9_weekCanBe (Nat.le_of_ble_eq_true rfl) rfl ?_
  refine wp_iconst (v := nI 0) dX9_weekCanBe_0 rfl ?_
  refine wp_istore (i := 4) (Lo' := [some (.ref 1), some (.int x1), some (.int x2), some (.int x3), some (.int (nI 0)), none]) dX9_weekCanBe_1 (by decide) rfl rfl ?_
  refine wp_iload_n (i := 3) dX9_weekCanBe_3 rfl rfl ?_
  refine wp_bipush (v := nI 7) dX9_weekCanBe_4 (by decide) ?_
  refine wp_imul dX9_weekCanBe_6 ?_
  refine wp_istore (i := 5) (Lo' := [some (.ref 1), some (.int x1), some (.int x2), some (.int x3), some (.int (nI 0)), some (.int (x3 * (nI 7)))]) dX9_weekCanBe_7 (by decide) rfl rfl ?_
  exact wp_mask [true, true, true, true, true, true] h
set_option maxRecDepth 20000 in
set_option maxHeartbeats 2000000 in
theorem vb_SD_sellWeek_58 {E : KE} {d : Nat} {x1 : Int32} {x2 : Int32} {x3 : Int32} {x4 : Int32} {x5 : Int32} {σ : Sg} {K : Int32 → Sg → Prop} (h : (((x3 + (nI 1)) * (nI 7)) ≤ x5 → K x4 σ) ∧ (¬ ((x3 + (nI 1)) * (nI 7)) ≤ x5 → CallI E shC d mX9_makeSale [.ref 1, .int x1, .int x2, .int x5] σ (fun y2 σ1 => WP E shC mX10_sellWeek (d + 1) 58 [some (.ref 0), some (.int x1), some (.int x2), some (.int x3), some (.int (x4 + y2)), some (.int (x5 + nI 1))] [] σ1 (k_qi K)))) : WP E shC mX10_sellWeek (d + 1) 58 [some (.ref 0), some (.int x1), some (.int x2), some (.int x3), some (.int x4), some (.int x5)] [] σ (k_qi K) := by
  refine wp_iload (i := 5) dX10_sellWeek_58 rfl ?_
  refine wp_iload_n (i := 3) dX10_sellWeek_60 rfl rfl ?_
  refine wp_iconst (v := nI 1) dX10_sellWeek_61 rfl ?_
  refine wp_iadd dX10_sellWeek_62 ?_
  refine wp_bipush (v := nI 7) dX10_sellWeek_63 (by decide) ?_
  refine wp_imul dX10_sellWeek_65 ?_
  refine wp_icmpge (tgt := 91) dX10_sellWeek_66 (by decide) ⟨fun q => ?_, fun q => ?_⟩
  · replace h := h.1 q
    refine wp_iload (i := 4) dX10_sellWeek_91 rfl ?_
    exact wp_ireturn dX10_sellWeek_93 rfl ⟨_, rfl, h⟩
  · replace h := h.2 q
    refine wp_iload (i := 4) dX10_sellWeek_69 rfl ?_
    refine wp_aload_n (i := 0) dX10_sellWeek_71 rfl rfl ?_
    refine wp_getR (t := 1) dX10_sellWeek_72 lf_X10_10 hC_0 rfl ?_
    refine wp_iload_n (i := 1) dX10_sellWeek_75 rfl rfl ?_
    refine wp_iload_n (i := 2) dX10_sellWeek_76 rfl rfl ?_
    refine wp_iload (i := 5) dX10_sellWeek_77 rfl ?_
    refine wp_callVI (vs := [.int x1, .int x2, .int x5]) (rest := [.int x4]) dX10_sellWeek_79 mV_X9_makeSale lm_X10_134 hC_1 rfl rfl rfl (Nat.le_of_ble_eq_true rfl) (CallI.mono h (fun y2 σ1 h => ?_))
    refine wp_iadd dX10_sellWeek_82 ?_
    refine wp_istore (i := 4) (Lo' := [some (.ref 0), some (.int x1), some (.int x2), some (.int x3), some (.int (x4 + y2)), some (.int x5)]) dX10_sellWeek_83 (by decide) rfl rfl ?_
    refine wp_iinc (i := 5) (v := x5 + nI 1) (Lo' := [some (.ref 0), some (.int x1), some (.int x2), some (.int x3), some (.int (x4 + y2)), some (.int (x5 + nI 1))]) dX10_sellWeek_85 rfl (by rfl) (by decide) rfl rfl ?_
    refine wp_goto (tgt := 58) dX10_sellWeek_88 (by decide) ?_
    exact wp_mask [true, true, true, true, true, true] h
set_option maxRecDepth 20000 in
set_option maxHeartbeats 2000000 in
theorem vc_SD_sellWeek {E : KE} {d : Nat} {x1 : Int32} {x2 : Int32} {x3 : Int32} {σ : Sg} {K : Int32 → Sg → Prop} (h : CallI E shC d mX1_areTwo [.ref 2, .int x1, .int x2] σ (fun y2 σ1 => (y2 = 0 → CallI E shC d mX10_error [.ref 0, .int (nI 1)] σ1 (fun y4 σ3 => K y4 σ3)) ∧ (¬ y2 = 0 → CallI E shC d mX10_isWithin [.int x3, .int (nI 0), .int (nI 3)] σ1 (fun y6 σ5 => (¬ y6 = 0 → CallI E shC d mX9_weekCanBe [.ref 1, .int x1, .int x2, .int x3] σ5 (fun y8 σ7 => (¬ y8 = 0 → WP E shC mX10_sellWeek (d + 1) 58 [some (.ref 0), some (.int x1), some (.int x2), some (.int x3), some (.int (nI 0)), some (.int (x3 * (nI 7)))] [] σ7 (k_qi K)) ∧ (y8 = 0 → CallI E shC d mX10_error [.ref 0, .int (nI 3)] σ7 (fun y10 σ9 => K y10 σ9)))) ∧ (y6 = 0 → CallI E shC d mX10_error [.ref 0, .int (nI 1)] σ5 (fun y12 σ11 => K y12 σ11)))))) : CallI E shC (d + 1) mX10_sellWeek [.ref 0, .int x1, .int x2, .int x3] σ K := by
  refine wp_enter (Lo := [some (.ref 0), some (.int x1), some (.int x2), some (.int x3), none, none]) mp_X10_sellWeek (Nat.le_of_ble_eq_true rfl) rfl ?_
  refine wp_aload_n (i := 0) dX10_sellWeek_0 rfl rfl ?_
  refine wp_getR (t := 1) dX10_sellWeek_1 lf_X10_10 hC_0 rfl ?_
  refine wp_getR (t := 2) dX10_sellWeek_4 lf_X10_66 hC_1 rfl ?_
  refine wp_iload_n (i := 1) dX10_sellWeek_7 rfl rfl ?_
  refine wp_iload_n (i := 2) dX10_sellWeek_8 rfl rfl ?_
  refine wp_callVI (vs := [.int x1, .int x2]) (rest := []) dX10_sellWeek_9 mV_X1_areTwo lm_X10_128 hC_2 rfl rfl rfl (Nat.le_of_ble_eq_true rfl) (CallI.mono h (fun y2 σ1 h => ?_))
  refine wp_ifeq (tgt := 24) dX10_sellWeek_12 (by decide) ⟨fun q => ?_, fun q => ?_⟩
  · replace h := h.1 q
    refine wp_aload_n (i := 0) dX10_sellWeek_24 rfl rfl ?_
    refine wp_iconst (v := nI 1) dX10_sellWeek_25 rfl ?_
    refine wp_callVI (vs := [.int (nI 1)]) (rest := []) dX10_sellWeek_26 mV_X10_error lm_X10_62 hC_0 rfl rfl rfl (Nat.le_of_ble_eq_true rfl) (CallI.mono h (fun y4 σ3 h => ?_))
    exact wp_ireturn dX10_sellWeek_29 rfl ⟨_, rfl, h⟩
  · replace h := h.2 q
    refine wp_iload_n (i := 3) dX10_sellWeek_15 rfl rfl ?_
    refine wp_iconst (v := nI 0) dX10_sellWeek_16 rfl ?_
    refine wp_iconst (v := nI 3) dX10_sellWeek_17 rfl ?_
    refine wp_callSI (vs := [.int x3, .int (nI 0), .int (nI 3)]) (rest := []) dX10_sellWeek_18 mS_X10_isWithin lm_X10_81 rfl rfl (Nat.le_of_ble_eq_true rfl) (CallI.mono h (fun y6 σ5 h => ?_))
    refine wp_ifne (tgt := 30) dX10_sellWeek_21 (by decide) ⟨fun q => ?_, fun q => ?_⟩
    · replace h := h.1 q
      refine wp_aload_n (i := 0) dX10_sellWeek_30 rfl rfl ?_
      refine wp_getR (t := 1) dX10_sellWeek_31 lf_X10_10 hC_0 rfl ?_
      refine wp_iload_n (i := 1) dX10_sellWeek_34 rfl rfl ?_
      refine wp_iload_n (i := 2) dX10_sellWeek_35 rfl rfl ?_
      refine wp_iload_n (i := 3) dX10_sellWeek_36 rfl rfl ?_
      refine wp_callVI (vs := [.int x1, .int x2, .int x3]) (rest := []) dX10_sellWeek_37 mV_X9_weekCanBe lm_X10_138 hC_1 rfl rfl rfl (Nat.le_of_ble_eq_true rfl) (CallI.mono h (fun y8 σ7 h => ?_))
      refine wp_ifne (tgt := 49) dX10_sellWeek_40 (by decide) ⟨fun q => ?_, fun q => ?_⟩
      · replace h := h.1 q
        refine wp_iconst (v := nI 0) dX10_sellWeek_49 rfl ?_
        refine wp_istore (i := 4) (Lo' := [some (.ref 0), some (.int x1), some (.int x2), some (.int x3), some (.int (nI 0)), none]) dX10_sellWeek_50 (by decide) rfl rfl ?_
        refine wp_iload_n (i := 3) dX10_sellWeek_52 rfl rfl ?_
        refine wp_bipush (v := nI 7) dX10_sellWeek_53 (by decide) ?_
        refine wp_imul dX10_sellWeek_55 ?_
        refine wp_istore (i := 5) (Lo' := [some (.ref 0), some (.int x1), some (.int x2), some (.int x3), some (.int (nI 0)), some (.int (x3 * (nI 7)))]) dX10_sellWeek_56 (by decide) rfl rfl ?_
        exact wp_mask [true, true, true, true, true, true] h
      · replace h := h.2 q
        refine wp_aload_n (i := 0) dX10_sellWeek_43 rfl rfl ?_
        refine wp_iconst (v := nI 3) dX10_sellWeek_44 rfl ?_
        refine wp_callVI (vs := [.int (nI 3)]) (rest := []) dX10_sellWeek_45 mV_X10_error lm_X10_62 hC_0 rfl rfl rfl (Nat.le_of_ble_eq_true rfl) (CallI.mono h (fun y10 σ9 h => ?_))
        exact wp_ireturn dX10_sellWeek_48 rfl ⟨_, rfl, h⟩
    · replace h := h.2 q
      refine wp_aload_n (i := 0) dX10_sellWeek_24 rfl rfl ?_
      refine wp_iconst (v := nI 1) dX10_sellWeek_25 rfl ?_
      refine wp_callVI (vs := [.int (nI 1)]) (rest := []) dX10_sellWeek_26 mV_X10_error lm_X10_62 hC_0 rfl rfl rfl (Nat.le_of_ble_eq_true rfl) (CallI.mono h (fun y12 σ11 h => ?_))
      exact wp_ireturn dX10_sellWeek_29 rfl ⟨_, rfl, h⟩
set_option maxRecDepth 20000 in
set_option maxHeartbeats 2000000 in
theorem vc_Promises_join {E : KE} {d : Nat} {x1 : Int32} {x2 : Int32} {x3 : Int32} {σ : Sg} {K : Int32 → Sg → Prop} (h : ∀ σ1, σ1 = k_put σ 8 (upd (σ 8) 3 ((σ 8 3) + (nI 1))) → vp_in (σ 8 3) 8 ∧ (∀ σ3, σ3 = k_put σ1 9 (upd (σ1 9) (σ 8 3).toNatClampNeg x1) → vp_in (σ 8 3) 8 ∧ (∀ σ5, σ5 = k_put σ3 10 (upd (σ3 10) (σ 8 3).toNatClampNeg x2) → vp_in (σ 8 3) 8 ∧ (∀ σ7, σ7 = k_put σ5 11 (upd (σ5 11) (σ 8 3).toNatClampNeg x3) → K (σ 8 3) σ7)))) : CallI E shC d mX2_join [.ref 8, .int x1, .int x2, .int x3] σ K := by
  refine wp_enter (Lo := [some (.ref 8), some (.int x1), some (.int x2), some (.int x3), none]) mp_X2_join (Nat.le_of_ble_eq_true rfl) rfl ?_
  refine wp_aload_n (i := 0) dX2_join_0 rfl rfl ?_
  refine wp_getI dX2_join_1 lf_X2_21 hC_8 rfl ?_
  refine wp_istore (i := 4) (Lo' := [some (.ref 8), some (.int x1), some (.int x2), some (.int x3), some (.int (σ 8 3))]) dX2_join_4 (by decide) rfl rfl ?_
  refine wp_aload_n (i := 0) dX2_join_6 rfl rfl ?_
  refine wp_dup dX2_join_7 rfl ?_
  refine wp_getI dX2_join_8 lf_X2_21 hC_8 rfl ?_
  refine wp_iconst (v := nI 1) dX2_join_11 rfl ?_
  refine wp_iadd dX2_join_12 ?_
  refine wp_put dX2_join_13 lp_X2_21 hC_8 rfl ⟨⟨rfl, rfl⟩, ?_⟩
  refine wp_nm (fun σ1 e2 => ?_)
  replace h := h σ1 e2
  refine wp_aload_n (i := 0) dX2_join_16 rfl rfl ?_
  refine wp_getR (t := 9) dX2_join_17 lf_X2_9 hC_8 rfl ?_
  refine wp_iload (i := 4) dX2_join_20 rfl ?_
  refine wp_iload_n (i := 1) dX2_join_22 rfl rfl ?_
  refine wp_iast dX2_join_23 hC_9 ⟨h.1, ?_⟩
  refine wp_nm (fun σ3 e4 => ?_)
  replace h := h.2 σ3 e4
  refine wp_aload_n (i := 0) dX2_join_24 rfl rfl ?_
  refine wp_getR (t := 10) dX2_join_25 lf_X2_15 hC_8 rfl ?_
  refine wp_iload (i := 4) dX2_join_28 rfl ?_
  refine wp_iload_n (i := 2) dX2_join_30 rfl rfl ?_
  refine wp_iast dX2_join_31 hC_10 ⟨h.1, ?_⟩
  refine wp_nm (fun σ5 e6 => ?_)
  replace h := h.2 σ5 e6
  refine wp_aload_n (i := 0) dX2_join_32 rfl rfl ?_
  refine wp_getR (t := 11) dX2_join_33 lf_X2_18 hC_8 rfl ?_
  refine wp_iload (i := 4) dX2_join_36 rfl ?_
  refine wp_iload_n (i := 3) dX2_join_38 rfl rfl ?_
  refine wp_iast dX2_join_39 hC_11 ⟨h.1, ?_⟩
  refine wp_nm (fun σ7 e8 => ?_)
  replace h := h.2 σ7 e8
  refine wp_iload (i := 4) dX2_join_40 rfl ?_
  exact wp_ireturn dX2_join_42 rfl ⟨_, rfl, h⟩
set_option maxRecDepth 20000 in
set_option maxHeartbeats 2000000 in
theorem vc_SD_promise {E : KE} {d : Nat} {x1 : Int32} {x2 : Int32} {x3 : Int32} {σ : Sg} {K : Int32 → Sg → Prop} (h : CallI E shC d mX1_areTwo [.ref 2, .int x1, .int x2] σ (fun y2 σ1 => (y2 = 0 → CallI E shC d mX10_error [.ref 0, .int (nI 1)] σ1 (fun y4 σ3 => K y4 σ3)) ∧ (¬ y2 = 0 → CallI E shC d mX10_isDay [.int x3] σ1 (fun y6 σ5 => (¬ y6 = 0 → ((σ5 8 3) < (nI 8) → CallI E shC d mX2_join [.ref 8, .int x1, .int x2, .int x3] σ5 (fun y8 σ7 => K y8 σ7)) ∧ (¬ (σ5 8 3) < (nI 8) → CallI E shC d mX10_error [.ref 0, .int (nI 4)] σ5 (fun y10 σ9 => K y10 σ9))) ∧ (y6 = 0 → CallI E shC d mX10_error [.ref 0, .int (nI 1)] σ5 (fun y12 σ11 => K y12 σ11)))))) : CallI E shC (d + 1) mX10_promise [.ref 0, .int x1, .int x2, .int x3] σ K := by
  refine wp_enter (Lo := [some (.ref 0), some (.int x1), some (.int x2), some (.int x3)]) mp_X10_promise (Nat.le_of_ble_eq_true rfl) rfl ?_
  refine wp_aload_n (i := 0) dX10_promise_0 rfl rfl ?_
  refine wp_getR (t := 1) dX10_promise_1 lf_X10_10 hC_0 rfl ?_
  refine wp_getR (t := 2) dX10_promise_4 lf_X10_66 hC_1 rfl ?_
  refine wp_iload_n (i := 1) dX10_promise_7 rfl rfl ?_
  refine wp_iload_n (i := 2) dX10_promise_8 rfl rfl ?_
  refine wp_callVI (vs := [.int x1, .int x2]) (rest := []) dX10_promise_9 mV_X1_areTwo lm_X10_128 hC_2 rfl rfl rfl (Nat.le_of_ble_eq_true rfl) (CallI.mono h (fun y2 σ1 h => ?_))
  refine wp_ifeq (tgt := 22) dX10_promise_12 (by decide) ⟨fun q => ?_, fun q => ?_⟩
  · replace h := h.1 q
    refine wp_aload_n (i := 0) dX10_promise_22 rfl rfl ?_
    refine wp_iconst (v := nI 1) dX10_promise_23 rfl ?_
    refine wp_callVI (vs := [.int (nI 1)]) (rest := []) dX10_promise_24 mV_X10_error lm_X10_62 hC_0 rfl rfl rfl (Nat.le_of_ble_eq_true rfl) (CallI.mono h (fun y4 σ3 h => ?_))
    exact wp_ireturn dX10_promise_27 rfl ⟨_, rfl, h⟩
  · replace h := h.2 q
    refine wp_iload_n (i := 3) dX10_promise_15 rfl rfl ?_
    refine wp_callSI (vs := [.int x3]) (rest := []) dX10_promise_16 mS_X10_isDay lm_X10_115 rfl rfl (Nat.le_of_ble_eq_true rfl) (CallI.mono h (fun y6 σ5 h => ?_))
    refine wp_ifne (tgt := 28) dX10_promise_19 (by decide) ⟨fun q => ?_, fun q => ?_⟩
    · replace h := h.1 q
      refine wp_aload_n (i := 0) dX10_promise_28 rfl rfl ?_
      refine wp_getR (t := 1) dX10_promise_29 lf_X10_10 hC_0 rfl ?_
      refine wp_getR (t := 8) dX10_promise_32 lf_X10_141 hC_1 rfl ?_
      refine wp_getI dX10_promise_35 lf_X10_145 hC_8 rfl ?_
      refine wp_bipush (v := nI 8) dX10_promise_38 (by decide) ?_
      refine wp_icmplt (tgt := 49) dX10_promise_40 (by decide) ⟨fun q => ?_, fun q => ?_⟩
      · replace h := h.1 q
        refine wp_aload_n (i := 0) dX10_promise_49 rfl rfl ?_
        refine wp_getR (t := 1) dX10_promise_50 lf_X10_10 hC_0 rfl ?_
        refine wp_getR (t := 8) dX10_promise_53 lf_X10_141 hC_1 rfl ?_
        refine wp_iload_n (i := 1) dX10_promise_56 rfl rfl ?_
        refine wp_iload_n (i := 2) dX10_promise_57 rfl rfl ?_
        refine wp_iload_n (i := 3) dX10_promise_58 rfl rfl ?_
        refine wp_callVI (vs := [.int x1, .int x2, .int x3]) (rest := []) dX10_promise_59 mV_X2_join lm_X10_148 hC_8 rfl rfl rfl (Nat.le_of_ble_eq_true rfl) (CallI.mono h (fun y8 σ7 h => ?_))
        exact wp_ireturn dX10_promise_62 rfl ⟨_, rfl, h⟩
      · replace h := h.2 q
        refine wp_aload_n (i := 0) dX10_promise_43 rfl rfl ?_
        refine wp_iconst (v := nI 4) dX10_promise_44 rfl ?_
        refine wp_callVI (vs := [.int (nI 4)]) (rest := []) dX10_promise_45 mV_X10_error lm_X10_62 hC_0 rfl rfl rfl (Nat.le_of_ble_eq_true rfl) (CallI.mono h (fun y10 σ9 h => ?_))
        exact wp_ireturn dX10_promise_48 rfl ⟨_, rfl, h⟩
    · replace h := h.2 q
      refine wp_aload_n (i := 0) dX10_promise_22 rfl rfl ?_
      refine wp_iconst (v := nI 1) dX10_promise_23 rfl ?_
      refine wp_callVI (vs := [.int (nI 1)]) (rest := []) dX10_promise_24 mV_X10_error lm_X10_62 hC_0 rfl rfl rfl (Nat.le_of_ble_eq_true rfl) (CallI.mono h (fun y12 σ11 h => ?_))
      exact wp_ireturn dX10_promise_27 rfl ⟨_, rfl, h⟩
set_option maxRecDepth 20000 in
set_option maxHeartbeats 2000000 in
theorem vc_People_isUp {E : KE} {d : Nat} {x1 : Int32} {x2 : Int32} {σ : Sg} {K : Int32 → Sg → Prop} (h : CallI E shC d mX1_livesOf [.ref 2, .int x1, .int x2] σ (fun y2 σ1 => (y2 ≤ 0 → K (nI 0) σ1) ∧ (¬ y2 ≤ 0 → K (nI 1) σ1))) : CallI E shC (d + 1) mX1_isUp [.ref 2, .int x1, .int x2] σ K := by
  refine wp_enter (Lo := [some (.ref 2), some (.int x1), some (.int x2)]) mp_X1_isUp (Nat.le_of_ble_eq_true rfl) rfl ?_
  refine wp_aload_n (i := 0) dX1_isUp_0 rfl rfl ?_
  refine wp_iload_n (i := 1) dX1_isUp_1 rfl rfl ?_
  refine wp_iload_n (i := 2) dX1_isUp_2 rfl rfl ?_
  refine wp_callVI (vs := [.int x1, .int x2]) (rest := []) dX1_isUp_3 mV_X1_livesOf lm_X1_53 hC_2 rfl rfl rfl (Nat.le_of_ble_eq_true rfl) (CallI.mono h (fun y2 σ1 h => ?_))
  refine wp_ifle (tgt := 13) dX1_isUp_6 (by decide) ⟨fun q => ?_, fun q => ?_⟩
  · replace h := h.1 q
    refine wp_iconst (v := nI 0) dX1_isUp_13 rfl ?_
    exact wp_zreturn dX1_isUp_14 rfl ⟨rfl, _, rfl, h⟩
  · replace h := h.2 q
    refine wp_iconst (v := nI 1) dX1_isUp_9 rfl ?_
    refine wp_goto (tgt := 14) dX1_isUp_10 (by decide) ?_
    exact wp_zreturn dX1_isUp_14 rfl ⟨rfl, _, rfl, h⟩
set_option maxRecDepth 20000 in
set_option maxHeartbeats 2000000 in
theorem vc_Promises_isKept {E : KE} {d : Nat} {x1 : Int32} {σ : Sg} {K : Int32 → Sg → Prop} (h : vp_in x1 8 ∧ (vp_in x1 8 ∧ (CallI E shC d mX1_isUp [.ref 2, .int (σ 9 x1.toNatClampNeg), .int (σ 11 x1.toNatClampNeg)] σ (fun y2 σ1 => (y2 = 0 → K (nI 0) σ1) ∧ (¬ y2 = 0 → vp_in x1 8 ∧ (CallI E shC d mX1_isUp [.ref 2, .int (σ1 10 x1.toNatClampNeg), .int (σ 11 x1.toNatClampNeg)] σ1 (fun y4 σ3 => (y4 = 0 → K (nI 0) σ3) ∧ (¬ y4 = 0 → K (nI 1) σ3)))))))) : CallI E shC (d + 1) mX2_isKept [.ref 8, .int x1, .ref 2] σ K := by
  refine wp_enter (Lo := [some (.ref 8), some (.int x1), some (.ref 2), none]) mp_X2_isKept (Nat.le_of_ble_eq_true rfl) rfl ?_
  refine wp_aload_n (i := 0) dX2_isKept_0 rfl rfl ?_
  refine wp_getR (t := 11) dX2_isKept_1 lf_X2_18 hC_8 rfl ?_
  refine wp_iload_n (i := 1) dX2_isKept_4 rfl rfl ?_
  refine wp_iald dX2_isKept_5 hC_11 ⟨h.1, ?_⟩
  replace h := h.2
  refine wp_istore_n (i := 3) (Lo' := [some (.ref 8), some (.int x1), some (.ref 2), some (.int (σ 11 x1.toNatClampNeg))]) dX2_isKept_6 rfl (by decide) rfl rfl ?_
  refine wp_aload_n (i := 2) dX2_isKept_7 rfl rfl ?_
  refine wp_aload_n (i := 0) dX2_isKept_8 rfl rfl ?_
  refine wp_getR (t := 9) dX2_isKept_9 lf_X2_9 hC_8 rfl ?_
  refine wp_iload_n (i := 1) dX2_isKept_12 rfl rfl ?_
  refine wp_iald dX2_isKept_13 hC_9 ⟨h.1, ?_⟩
  replace h := h.2
  refine wp_iload_n (i := 3) dX2_isKept_14 rfl rfl ?_
  refine wp_callVI (vs := [.int (σ 9 x1.toNatClampNeg), .int (σ 11 x1.toNatClampNeg)]) (rest := []) dX2_isKept_15 mV_X1_isUp lm_X2_25 hC_2 rfl rfl rfl (Nat.le_of_ble_eq_true rfl) (CallI.mono h (fun y2 σ1 h => ?_))
  refine wp_ifeq (tgt := 39) dX2_isKept_18 (by decide) ⟨fun q => ?_, fun q => ?_⟩
  · replace h := h.1 q
    refine wp_iconst (v := nI 0) dX2_isKept_39 rfl ?_
    exact wp_zreturn dX2_isKept_40 rfl ⟨rfl, _, rfl, h⟩
  · replace h := h.2 q
    refine wp_aload_n (i := 2) dX2_isKept_21 rfl rfl ?_
    refine wp_aload_n (i := 0) dX2_isKept_22 rfl rfl ?_
    refine wp_getR (t := 10) dX2_isKept_23 lf_X2_15 hC_8 rfl ?_
    refine wp_iload_n (i := 1) dX2_isKept_26 rfl rfl ?_
    refine wp_iald dX2_isKept_27 hC_10 ⟨h.1, ?_⟩
    replace h := h.2
    refine wp_iload_n (i := 3) dX2_isKept_28 rfl rfl ?_
    refine wp_callVI (vs := [.int (σ1 10 x1.toNatClampNeg), .int (σ 11 x1.toNatClampNeg)]) (rest := []) dX2_isKept_29 mV_X1_isUp lm_X2_25 hC_2 rfl rfl rfl (Nat.le_of_ble_eq_true rfl) (CallI.mono h (fun y4 σ3 h => ?_))
    refine wp_ifeq (tgt := 39) dX2_isKept_32 (by decide) ⟨fun q => ?_, fun q => ?_⟩
    · replace h := h.1 q
      refine wp_iconst (v := nI 0) dX2_isKept_39 rfl ?_
      exact wp_zreturn dX2_isKept_40 rfl ⟨rfl, _, rfl, h⟩
    · replace h := h.2 q
      refine wp_iconst (v := nI 1) dX2_isKept_35 rfl ?_
      refine wp_goto (tgt := 40) dX2_isKept_36 (by decide) ?_
      exact wp_zreturn dX2_isKept_40 rfl ⟨rfl, _, rfl, h⟩
set_option maxRecDepth 20000 in
set_option maxHeartbeats 2000000 in
theorem vc_SD_promiseIs {E : KE} {d : Nat} {x1 : Int32} {x2 : Int32} {σ : Sg} {K : Int32 → Sg → Prop} (h : CallI E shC d mX10_isWithin [.int x1, .int (nI 0), .int ((σ 8 3) - (nI 1))] σ (fun y2 σ1 => (y2 = 0 → CallI E shC d mX10_error [.ref 0, .int (nI 1)] σ1 (fun y4 σ3 => K y4 σ3)) ∧ (¬ y2 = 0 → CallI E shC d mX10_isWithin [.int x2, .int (nI 0), .int (nI 3)] σ1 (fun y6 σ5 => (¬ y6 = 0 → (x2 = nI 0 → vp_in x1 8 ∧ (K (σ5 9 x1.toNatClampNeg) σ5)) ∧ (x2 = nI 1 → vp_in x1 8 ∧ (K (σ5 10 x1.toNatClampNeg) σ5)) ∧ (x2 = nI 2 → vp_in x1 8 ∧ (K (σ5 11 x1.toNatClampNeg) σ5)) ∧ (¬ x2 = nI 0 → ¬ x2 = nI 1 → ¬ x2 = nI 2 → CallI E shC d mX2_isKept [.ref 8, .int x1, .ref 2] σ5 (fun y8 σ7 => (y8 = 0 → K (nI 0) σ7) ∧ (¬ y8 = 0 → K (nI 1) σ7)))) ∧ (y6 = 0 → CallI E shC d mX10_error [.ref 0, .int (nI 1)] σ5 (fun y10 σ9 => K y10 σ9)))))) : CallI E shC (d + 1) mX10_promiseIs [.ref 0, .int x1, .int x2] σ K := by
  refine wp_enter (Lo := [some (.ref 0), some (.int x1), some (.int x2), none]) mp_X10_promiseIs (Nat.le_of_ble_eq_true rfl) rfl ?_
  refine wp_aload_n (i := 0) dX10_promiseIs_0 rfl rfl ?_
  refine wp_getR (t := 1) dX10_promiseIs_1 lf_X10_10 hC_0 rfl ?_
  refine wp_getR (t := 8) dX10_promiseIs_4 lf_X10_141 hC_1 rfl ?_
  refine wp_astore_n (i := 3) (Lo' := [some (.ref 0), some (.int x1), some (.int x2), some (.ref 8)]) dX10_promiseIs_7 rfl (by decide) rfl rfl ?_
  refine wp_iload_n (i := 1) dX10_promiseIs_8 rfl rfl ?_
  refine wp_iconst (v := nI 0) dX10_promiseIs_9 rfl ?_
  refine wp_aload_n (i := 3) dX10_promiseIs_10 rfl rfl ?_
  refine wp_getI dX10_promiseIs_11 lf_X10_145 hC_8 rfl ?_
  refine wp_iconst (v := nI 1) dX10_promiseIs_14 rfl ?_
  refine wp_isub dX10_promiseIs_15 ?_
  refine wp_callSI (vs := [.int x1, .int (nI 0), .int ((σ 8 3) - (nI 1))]) (rest := []) dX10_promiseIs_16 mS_X10_isWithin lm_X10_81 rfl rfl (Nat.le_of_ble_eq_true rfl) (CallI.mono h (fun y2 σ1 h => ?_))
  refine wp_ifeq (tgt := 31) dX10_promiseIs_19 (by decide) ⟨fun q => ?_, fun q => ?_⟩
  · replace h := h.1 q
    refine wp_aload_n (i := 0) dX10_promiseIs_31 rfl rfl ?_
    refine wp_iconst (v := nI 1) dX10_promiseIs_32 rfl ?_
    refine wp_callVI (vs := [.int (nI 1)]) (rest := []) dX10_promiseIs_33 mV_X10_error lm_X10_62 hC_0 rfl rfl rfl (Nat.le_of_ble_eq_true rfl) (CallI.mono h (fun y4 σ3 h => ?_))
    exact wp_ireturn dX10_promiseIs_36 rfl ⟨_, rfl, h⟩
  · replace h := h.2 q
    refine wp_iload_n (i := 2) dX10_promiseIs_22 rfl rfl ?_
    refine wp_iconst (v := nI 0) dX10_promiseIs_23 rfl ?_
    refine wp_iconst (v := nI 3) dX10_promiseIs_24 rfl ?_
    refine wp_callSI (vs := [.int x2, .int (nI 0), .int (nI 3)]) (rest := []) dX10_promiseIs_25 mS_X10_isWithin lm_X10_81 rfl rfl (Nat.le_of_ble_eq_true rfl) (CallI.mono h (fun y6 σ5 h => ?_))
    refine wp_ifne (tgt := 37) dX10_promiseIs_28 (by decide) ⟨fun q => ?_, fun q => ?_⟩
    · replace h := h.1 q
      refine wp_iload_n (i := 2) dX10_promiseIs_37 rfl rfl ?_
      rcases Classical.em (x2 = nI 0) with q0 | q0
      · replace h := h.1 q0
        refine wp_tswIn (off := 26) (tgt := 64) dX10_promiseIs_38 (by rw [q0]; decide) (by rw [q0]; decide) (by rw [q0]; rfl) (by decide) ?_
        refine wp_aload_n (i := 3) dX10_promiseIs_64 rfl rfl ?_
        refine wp_getR (t := 9) dX10_promiseIs_65 lf_X10_150 hC_8 rfl ?_
        refine wp_iload_n (i := 1) dX10_promiseIs_68 rfl rfl ?_
        refine wp_iald dX10_promiseIs_69 hC_9 ⟨h.1, ?_⟩
        replace h := h.2
        exact wp_ireturn dX10_promiseIs_70 rfl ⟨_, rfl, h⟩
      rcases Classical.em (x2 = nI 1) with q1 | q1
      · replace h := h.2.1 q1
        refine wp_tswIn (off := 33) (tgt := 71) dX10_promiseIs_38 (by rw [q1]; decide) (by rw [q1]; decide) (by rw [q1]; rfl) (by decide) ?_
        refine wp_aload_n (i := 3) dX10_promiseIs_71 rfl rfl ?_
        refine wp_getR (t := 10) dX10_promiseIs_72 lf_X10_153 hC_8 rfl ?_
        refine wp_iload_n (i := 1) dX10_promiseIs_75 rfl rfl ?_
        refine wp_iald dX10_promiseIs_76 hC_10 ⟨h.1, ?_⟩
        replace h := h.2
        exact wp_ireturn dX10_promiseIs_77 rfl ⟨_, rfl, h⟩
      rcases Classical.em (x2 = nI 2) with q2 | q2
      · replace h := h.2.2.1 q2
        refine wp_tswIn (off := 40) (tgt := 78) dX10_promiseIs_38 (by rw [q2]; decide) (by rw [q2]; decide) (by rw [q2]; rfl) (by decide) ?_
        refine wp_aload_n (i := 3) dX10_promiseIs_78 rfl rfl ?_
        refine wp_getR (t := 11) dX10_promiseIs_79 lf_X10_156 hC_8 rfl ?_
        refine wp_iload_n (i := 1) dX10_promiseIs_82 rfl rfl ?_
        refine wp_iald dX10_promiseIs_83 hC_11 ⟨h.1, ?_⟩
        replace h := h.2
        exact wp_ireturn dX10_promiseIs_84 rfl ⟨_, rfl, h⟩
      have nq0 := lv_neT q0 (show ((nI 0) : Int32).toInt = 0 by decide)
      have nq1 := lv_neT q1 (show ((nI 1) : Int32).toInt = 1 by decide)
      have nq2 := lv_neT q2 (show ((nI 2) : Int32).toInt = 2 by decide)
      replace h := h.2.2.2 q0 q1 q2
      refine wp_tswOut (tgt := 85) dX10_promiseIs_38 (by omega) (by decide) ?_
      refine wp_aload_n (i := 3) dX10_promiseIs_85 rfl rfl ?_
      refine wp_iload_n (i := 1) dX10_promiseIs_86 rfl rfl ?_
      refine wp_aload_n (i := 0) dX10_promiseIs_87 rfl rfl ?_
      refine wp_getR (t := 1) dX10_promiseIs_88 lf_X10_10 hC_0 rfl ?_
      refine wp_getR (t := 2) dX10_promiseIs_91 lf_X10_66 hC_1 rfl ?_
      refine wp_callVI (vs := [.int x1, .ref 2]) (rest := []) dX10_promiseIs_94 mV_X2_isKept lm_X10_159 hC_8 rfl rfl rfl (Nat.le_of_ble_eq_true rfl) (CallI.mono h (fun y8 σ7 h => ?_))
      refine wp_ifeq (tgt := 104) dX10_promiseIs_97 (by decide) ⟨fun q => ?_, fun q => ?_⟩
      · replace h := h.1 q
        refine wp_iconst (v := nI 0) dX10_promiseIs_104 rfl ?_
        exact wp_ireturn dX10_promiseIs_105 rfl ⟨_, rfl, h⟩
      · replace h := h.2 q
        refine wp_iconst (v := nI 1) dX10_promiseIs_100 rfl ?_
        refine wp_goto (tgt := 105) dX10_promiseIs_101 (by decide) ?_
        exact wp_ireturn dX10_promiseIs_105 rfl ⟨_, rfl, h⟩
    · replace h := h.2 q
      refine wp_aload_n (i := 0) dX10_promiseIs_31 rfl rfl ?_
      refine wp_iconst (v := nI 1) dX10_promiseIs_32 rfl ?_
      refine wp_callVI (vs := [.int (nI 1)]) (rest := []) dX10_promiseIs_33 mV_X10_error lm_X10_62 hC_0 rfl rfl rfl (Nat.le_of_ble_eq_true rfl) (CallI.mono h (fun y10 σ9 h => ?_))
      exact wp_ireturn dX10_promiseIs_36 rfl ⟨_, rfl, h⟩
set_option maxRecDepth 20000 in
set_option maxHeartbeats 2000000 in
theorem vc_Row_add_20 {E : KE} {d : Nat} {x1 : Int32} {σ : Sg} {K : Sg → Prop} (h : ((nI 60) ≤ (σ 20 1) → K σ) ∧ (¬ (nI 60) ≤ (σ 20 1) → vp_in (σ 20 1) 60 ∧ (∀ σ1, σ1 = k_put σ 21 (upd (σ 21) (σ 20 1).toNatClampNeg x1) → ∀ σ3, σ3 = k_put σ1 20 (upd (σ1 20) 1 ((σ1 20 1) + (nI 1))) → K σ3))) : CallN E shC d mX4_add [.ref 20, .int x1] σ K := by
  refine wp_enter (Lo := [some (.ref 20), some (.int x1)]) mp_X4_add (Nat.le_of_ble_eq_true rfl) rfl ?_
  refine wp_aload_n (i := 0) dX4_add_0 rfl rfl ?_
  refine wp_getI dX4_add_1 lf_X4_13 hC_20 rfl ?_
  refine wp_aload_n (i := 0) dX4_add_4 rfl rfl ?_
  refine wp_getR (t := 21) dX4_add_5 lf_X4_7 hC_20 rfl ?_
  refine wp_alen dX4_add_8 hC_21 ?_
  refine wp_icmpge (tgt := 32) dX4_add_9 (by decide) ⟨fun q => ?_, fun q => ?_⟩
  · replace h := h.1 q
    exact wp_return dX4_add_32 rfl ⟨rfl, h⟩
  · replace h := h.2 q
    refine wp_aload_n (i := 0) dX4_add_12 rfl rfl ?_
    refine wp_getR (t := 21) dX4_add_13 lf_X4_7 hC_20 rfl ?_
    refine wp_aload_n (i := 0) dX4_add_16 rfl rfl ?_
    refine wp_getI dX4_add_17 lf_X4_13 hC_20 rfl ?_
    refine wp_iload_n (i := 1) dX4_add_20 rfl rfl ?_
    refine wp_iast dX4_add_21 hC_21 ⟨h.1, ?_⟩
    refine wp_nm (fun σ1 e2 => ?_)
    replace h := h.2 σ1 e2
    refine wp_aload_n (i := 0) dX4_add_22 rfl rfl ?_
    refine wp_dup dX4_add_23 rfl ?_
    refine wp_getI dX4_add_24 lf_X4_13 hC_20 rfl ?_
    refine wp_iconst (v := nI 1) dX4_add_27 rfl ?_
    refine wp_iadd dX4_add_28 ?_
    refine wp_put dX4_add_29 lp_X4_13 hC_20 rfl ⟨⟨rfl, rfl⟩, ?_⟩
    refine wp_nm (fun σ3 e4 => ?_)
    replace h := h σ3 e4
    exact wp_return dX4_add_32 rfl ⟨rfl, h⟩
set_option maxRecDepth 20000 in
set_option maxHeartbeats 2000000 in
theorem vb_SD_feed_42 {E : KE} {d : Nat} {x1 : Int64} {x3 : Int32} {x4 : Int32} {σ : Sg} {K : Int32 → Sg → Prop} (h : (x3 ≤ x4 → K (σ 20 1) σ) ∧ (¬ x3 ≤ x4 → CallN E shC d mX4_add [.ref 20, .int ((((x1.toUInt64 >>> (((nI 8) * x4).toInt64.toUInt64 &&& Int64.toUInt64 63)).toInt64).toInt32) &&& (nI 255))] σ (fun σ1 => WP E shC mX10_feed (d + 1) 42 [some (.ref 0), some (.long x1), none, some (.int x3), some (.int (x4 + nI 1))] [] σ1 (k_qi K)))) : WP E shC mX10_feed (d + 1) 42 [some (.ref 0), some (.long x1), none, some (.int x3), some (.int x4)] [] σ (k_qi K) := by
  refine wp_iload (i := 4) dX10_feed_42 rfl ?_
  refine wp_iload_n (i := 3) dX10_feed_44 rfl rfl ?_
  refine wp_icmpge (tgt := 76) dX10_feed_45 (by decide) ⟨fun q => ?_, fun q => ?_⟩
  · replace h := h.1 q
    refine wp_aload_n (i := 0) dX10_feed_76 rfl rfl ?_
    refine wp_getR (t := 1) dX10_feed_77 lf_X10_10 hC_0 rfl ?_
    refine wp_getR (t := 20) dX10_feed_80 lf_X10_163 hC_1 rfl ?_
    refine wp_getI dX10_feed_83 lf_X10_167 hC_20 rfl ?_
    exact wp_ireturn dX10_feed_86 rfl ⟨_, rfl, h⟩
  · replace h := h.2 q
    refine wp_aload_n (i := 0) dX10_feed_48 rfl rfl ?_
    refine wp_getR (t := 1) dX10_feed_49 lf_X10_10 hC_0 rfl ?_
    refine wp_getR (t := 20) dX10_feed_52 lf_X10_163 hC_1 rfl ?_
    refine wp_lload_n (i := 1) dX10_feed_55 rfl rfl ?_
    refine wp_bipush (v := nI 8) dX10_feed_56 (by decide) ?_
    refine wp_iload (i := 4) dX10_feed_58 rfl ?_
    refine wp_imul dX10_feed_60 ?_
    refine wp_lushr dX10_feed_61 ?_
    refine wp_l2i dX10_feed_62 ?_
    refine wp_sipush (v := nI 255) dX10_feed_63 (by decide) ?_
    refine wp_iand dX10_feed_66 ?_
    refine wp_callVN (vs := [.int ((((x1.toUInt64 >>> (((nI 8) * x4).toInt64.toUInt64 &&& Int64.toUInt64 63)).toInt64).toInt32) &&& (nI 255))]) (rest := []) dX10_feed_67 mV_X4_add lm_X10_170 hC_20 rfl rfl rfl (Nat.le_of_ble_eq_true rfl) (CallN.mono h (fun σ1 h => ?_))
    refine wp_iinc (i := 4) (v := x4 + nI 1) (Lo' := [some (.ref 0), some (.long x1), none, some (.int x3), some (.int (x4 + nI 1))]) dX10_feed_70 rfl (by rfl) (by decide) rfl rfl ?_
    refine wp_goto (tgt := 42) dX10_feed_73 (by decide) ?_
    exact wp_mask [true, true, false, true, true] h
set_option maxRecDepth 20000 in
set_option maxHeartbeats 2000000 in
theorem vc_SD_feed {E : KE} {d : Nat} {x1 : Int64} {x3 : Int32} {σ : Sg} {K : Int32 → Sg → Prop} (h : CallI E shC d mX10_isWithin [.int x3, .int (nI 1), .int (nI 8)] σ (fun y2 σ1 => (¬ y2 = 0 → ((σ1 20 1) ≤ ((nI 60) - x3) → WP E shC mX10_feed (d + 1) 42 [some (.ref 0), some (.long x1), none, some (.int x3), some (.int (nI 0))] [] σ1 (k_qi K)) ∧ (¬ (σ1 20 1) ≤ ((nI 60) - x3) → CallI E shC d mX10_error [.ref 0, .int (nI 4)] σ1 (fun y4 σ3 => K y4 σ3))) ∧ (y2 = 0 → CallI E shC d mX10_error [.ref 0, .int (nI 1)] σ1 (fun y6 σ5 => K y6 σ5)))) : CallI E shC (d + 1) mX10_feed [.ref 0, .long x1, .int x3] σ K := by
  refine wp_enter (Lo := [some (.ref 0), some (.long x1), none, some (.int x3), none]) mp_X10_feed (Nat.le_of_ble_eq_true rfl) rfl ?_
  refine wp_iload_n (i := 3) dX10_feed_0 rfl rfl ?_
  refine wp_iconst (v := nI 1) dX10_feed_1 rfl ?_
  refine wp_bipush (v := nI 8) dX10_feed_2 (by decide) ?_
  refine wp_callSI (vs := [.int x3, .int (nI 1), .int (nI 8)]) (rest := []) dX10_feed_4 mS_X10_isWithin lm_X10_81 rfl rfl (Nat.le_of_ble_eq_true rfl) (CallI.mono h (fun y2 σ1 h => ?_))
  refine wp_ifne (tgt := 16) dX10_feed_7 (by decide) ⟨fun q => ?_, fun q => ?_⟩
  · replace h := h.1 q
    refine wp_aload_n (i := 0) dX10_feed_16 rfl rfl ?_
    refine wp_getR (t := 1) dX10_feed_17 lf_X10_10 hC_0 rfl ?_
    refine wp_getR (t := 20) dX10_feed_20 lf_X10_163 hC_1 rfl ?_
    refine wp_getI dX10_feed_23 lf_X10_167 hC_20 rfl ?_
    refine wp_bipush (v := nI 60) dX10_feed_26 (by decide) ?_
    refine wp_iload_n (i := 3) dX10_feed_28 rfl rfl ?_
    refine wp_isub dX10_feed_29 ?_
    refine wp_icmple (tgt := 39) dX10_feed_30 (by decide) ⟨fun q => ?_, fun q => ?_⟩
    · replace h := h.1 q
      refine wp_iconst (v := nI 0) dX10_feed_39 rfl ?_
      refine wp_istore (i := 4) (Lo' := [some (.ref 0), some (.long x1), none, some (.int x3), some (.int (nI 0))]) dX10_feed_40 (by decide) rfl rfl ?_
      exact wp_mask [true, true, false, true, true] h
    · replace h := h.2 q
      refine wp_aload_n (i := 0) dX10_feed_33 rfl rfl ?_
      refine wp_iconst (v := nI 4) dX10_feed_34 rfl ?_
      refine wp_callVI (vs := [.int (nI 4)]) (rest := []) dX10_feed_35 mV_X10_error lm_X10_62 hC_0 rfl rfl rfl (Nat.le_of_ble_eq_true rfl) (CallI.mono h (fun y4 σ3 h => ?_))
      exact wp_ireturn dX10_feed_38 rfl ⟨_, rfl, h⟩
  · replace h := h.2 q
    refine wp_aload_n (i := 0) dX10_feed_10 rfl rfl ?_
    refine wp_iconst (v := nI 1) dX10_feed_11 rfl ?_
    refine wp_callVI (vs := [.int (nI 1)]) (rest := []) dX10_feed_12 mV_X10_error lm_X10_62 hC_0 rfl rfl rfl (Nat.le_of_ble_eq_true rfl) (CallI.mono h (fun y6 σ5 h => ?_))
    exact wp_ireturn dX10_feed_15 rfl ⟨_, rfl, h⟩
set_option maxRecDepth 20000 in
set_option maxHeartbeats 2000000 in
theorem vc_Row_copyFrom_50_20 {E : KE} {d : Nat} {σ : Sg} {K : Sg → Prop} (h : ∀ σ1, σ1 = k_put σ 50 (upd (σ 50) 1 (if (nI 60) < (σ 20 1) then (nI 60) else (σ 20 1))) → (¬ (nI 0) < 0 ∧ ¬ (nI 0) < 0 ∧ ¬ (σ1 50 1) < 0 ∧ (nI 0).toNatClampNeg + (σ1 50 1).toNatClampNeg ≤ 60 ∧ (nI 0).toNatClampNeg + (σ1 50 1).toNatClampNeg ≤ 60) ∧ (∀ σ3, σ3 = k_put σ1 51 (va_cpy (σ1 21) (σ1 51) (nI 0).toNatClampNeg (nI 0).toNatClampNeg (σ1 50 1).toNatClampNeg) → K σ3)) : CallN E shC d mX4_copyFrom [.ref 50, .ref 20] σ K := by
  refine wp_enter (Lo := [some (.ref 50), some (.ref 20)]) mp_X4_copyFrom (Nat.le_of_ble_eq_true rfl) rfl ?_
  refine wp_aload_n (i := 0) dX4_copyFrom_0 rfl rfl ?_
  refine wp_aload_n (i := 1) dX4_copyFrom_1 rfl rfl ?_
  refine wp_getI dX4_copyFrom_2 lf_X4_13 hC_20 rfl ?_
  refine wp_aload_n (i := 0) dX4_copyFrom_5 rfl rfl ?_
  refine wp_getR (t := 51) dX4_copyFrom_6 lf_X4_7 hC_50 rfl ?_
  refine wp_alen dX4_copyFrom_9 hC_51 ?_
  refine wp_mmin dX4_copyFrom_10 (lmin lm_X4_17) (Nat.le_of_ble_eq_true rfl) ?_
  refine wp_put dX4_copyFrom_13 lp_X4_13 hC_50 rfl ⟨⟨rfl, rfl⟩, ?_⟩
  refine wp_nm (fun σ1 e2 => ?_)
  replace h := h σ1 e2
  refine wp_aload_n (i := 1) dX4_copyFrom_16 rfl rfl ?_
  refine wp_getR (t := 21) dX4_copyFrom_17 lf_X4_7 hC_20 rfl ?_
  refine wp_iconst (v := nI 0) dX4_copyFrom_20 rfl ?_
  refine wp_aload_n (i := 0) dX4_copyFrom_21 rfl rfl ?_
  refine wp_getR (t := 51) dX4_copyFrom_22 lf_X4_7 hC_50 rfl ?_
  refine wp_iconst (v := nI 0) dX4_copyFrom_25 rfl ?_
  refine wp_aload_n (i := 0) dX4_copyFrom_26 rfl rfl ?_
  refine wp_getI dX4_copyFrom_27 lf_X4_13 hC_50 rfl ?_
  refine wp_copy dX4_copyFrom_30 lc_X4_23_copy hC_21 hC_51 (Nat.le_of_ble_eq_true rfl) ⟨h.1, ?_⟩
  refine wp_nm (fun σ3 e4 => ?_)
  replace h := h.2 σ3 e4
  exact wp_return dX4_copyFrom_33 rfl ⟨rfl, h⟩
set_option maxRecDepth 20000 in
set_option maxHeartbeats 2000000 in
theorem vc_Reader_here {E : KE} {d : Nat} {σ : Sg} {K : Int32 → Sg → Prop} (h : (¬ (σ 47 4) = (-1 : Int32) → K (-1 : Int32) σ) ∧ ((σ 47 4) = (-1 : Int32) → ((σ 50 1) ≤ (σ 47 3) → K (-1 : Int32) σ) ∧ (¬ (σ 50 1) ≤ (σ 47 3) → vp_in (σ 47 3) 60 ∧ (K (σ 51 (σ 47 3).toNatClampNeg) σ)))) : CallI E shC d mX3_here [.ref 47] σ K := by
  refine wp_enter (Lo := [some (.ref 47)]) mp_X3_here (Nat.le_of_ble_eq_true rfl) rfl ?_
  refine wp_aload_n (i := 0) dX3_here_0 rfl rfl ?_
  refine wp_getI dX3_here_1 lf_X3_30 hC_47 rfl ?_
  refine wp_iconst (v := (-1 : Int32)) dX3_here_4 rfl ?_
  refine wp_icmpne (tgt := 37) dX3_here_5 (by decide) ⟨fun q => ?_, fun q => ?_⟩
  · replace h := h.1 q
    refine wp_iconst (v := (-1 : Int32)) dX3_here_37 rfl ?_
    exact wp_ireturn dX3_here_38 rfl ⟨_, rfl, h⟩
  · replace h := h.2 q
    refine wp_aload_n (i := 0) dX3_here_8 rfl rfl ?_
    refine wp_getI dX3_here_9 lf_X3_27 hC_47 rfl ?_
    refine wp_aload_n (i := 0) dX3_here_12 rfl rfl ?_
    refine wp_getR (t := 50) dX3_here_13 lf_X3_20 hC_47 rfl ?_
    refine wp_getI dX3_here_16 lf_X3_37 hC_50 rfl ?_
    refine wp_icmpge (tgt := 37) dX3_here_19 (by decide) ⟨fun q => ?_, fun q => ?_⟩
    · replace h := h.1 q
      refine wp_iconst (v := (-1 : Int32)) dX3_here_37 rfl ?_
      exact wp_ireturn dX3_here_38 rfl ⟨_, rfl, h⟩
    · replace h := h.2 q
      refine wp_aload_n (i := 0) dX3_here_22 rfl rfl ?_
      refine wp_getR (t := 50) dX3_here_23 lf_X3_20 hC_47 rfl ?_
      refine wp_getR (t := 51) dX3_here_26 lf_X3_76 hC_50 rfl ?_
      refine wp_aload_n (i := 0) dX3_here_29 rfl rfl ?_
      refine wp_getI dX3_here_30 lf_X3_27 hC_47 rfl ?_
      refine wp_iald dX3_here_33 hC_51 ⟨h.1, ?_⟩
      replace h := h.2
      refine wp_goto (tgt := 38) dX3_here_34 (by decide) ?_
      exact wp_ireturn dX3_here_38 rfl ⟨_, rfl, h⟩
set_option maxRecDepth 20000 in
set_option maxHeartbeats 2000000 in
theorem vb_Reader_nameHere_2 {E : KE} {d : Nat} {x1 : Int32} {σ : Sg} {K : Int32 → Sg → Prop} (h : ((nI 3) ≤ x1 → K (-1 : Int32) σ) ∧ (¬ (nI 3) ≤ x1 → vp_in (((σ 47 2) * (nI 3)) + x1) 6 ∧ (CallI E shC d mX3_here [.ref 47] σ (fun y2 σ1 => (¬ (k_tv 2 (((σ 47 2) * (nI 3)) + x1).toNatClampNeg) = y2 → WP E shC mX3_nameHere (d + 1) 2 [some (.ref 47), some (.int (x1 + nI 1))] [] σ1 (k_qi K)) ∧ ((k_tv 2 (((σ 47 2) * (nI 3)) + x1).toNatClampNeg) = y2 → K x1 σ1))))) : WP E shC mX3_nameHere (d + 1) 2 [some (.ref 47), some (.int x1)] [] σ (k_qi K) := by
  refine wp_iload_n (i := 1) dX3_nameHere_2 rfl rfl ?_
  refine wp_iconst (v := nI 3) dX3_nameHere_3 rfl ?_
  refine wp_icmpge (tgt := 34) dX3_nameHere_4 (by decide) ⟨fun q => ?_, fun q => ?_⟩
  · replace h := h.1 q
    refine wp_iconst (v := (-1 : Int32)) dX3_nameHere_34 rfl ?_
    exact wp_ireturn dX3_nameHere_35 rfl ⟨_, rfl, h⟩
  · replace h := h.2 q
    refine wp_gets2 dX3_nameHere_7 ls_X3_80 ?_
    refine wp_aload_n (i := 0) dX3_nameHere_10 rfl rfl ?_
    refine wp_getI dX3_nameHere_11 lf_X3_23 hC_47 rfl ?_
    refine wp_iconst (v := nI 3) dX3_nameHere_14 rfl ?_
    refine wp_imul dX3_nameHere_15 ?_
    refine wp_iload_n (i := 1) dX3_nameHere_16 rfl rfl ?_
    refine wp_iadd dX3_nameHere_17 ?_
    refine wp_tab2 dX3_nameHere_18 ⟨h.1, ?_⟩
    replace h := h.2
    refine wp_aload_n (i := 0) dX3_nameHere_19 rfl rfl ?_
    refine wp_callVI (vs := []) (rest := [.int (k_tv 2 (((σ 47 2) * (nI 3)) + x1).toNatClampNeg)]) dX3_nameHere_20 mV_X3_here lm_X3_50 hC_47 rfl rfl rfl (Nat.le_of_ble_eq_true rfl) (CallI.mono h (fun y2 σ1 h => ?_))
    refine wp_icmpne (tgt := 28) dX3_nameHere_23 (by decide) ⟨fun q => ?_, fun q => ?_⟩
    · replace h := h.1 q
      refine wp_iinc (i := 1) (v := x1 + nI 1) (Lo' := [some (.ref 47), some (.int (x1 + nI 1))]) dX3_nameHere_28 rfl (by rfl) (by decide) rfl rfl ?_
      refine wp_goto (tgt := 2) dX3_nameHere_31 (by decide) ?_
      exact wp_mask [true, true] h
    · replace h := h.2 q
      refine wp_iload_n (i := 1) dX3_nameHere_26 rfl rfl ?_
      exact wp_ireturn dX3_nameHere_27 rfl ⟨_, rfl, h⟩
set_option maxRecDepth 20000 in
set_option maxHeartbeats 2000000 in
theorem vc_Reader_nameHere {E : KE} {d : Nat} {σ : Sg} {K : Int32 → Sg → Prop} (h : WP E shC mX3_nameHere (d + 1) 2 [some (.ref 47), some (.int (nI 0))] [] σ (k_qi K)) : CallI E shC (d + 1) mX3_nameHere [.ref 47] σ K := by
  refine wp_enter (Lo := [some (.ref 47), none]) mp_X3_nameHere (Nat.le_of_ble_eq_true rfl) rfl ?_
  refine wp_iconst (v := nI 0) dX3_nameHere_0 rfl ?_
  refine wp_istore_n (i := 1) (Lo' := [some (.ref 47), some (.int (nI 0))]) dX3_nameHere_1 rfl (by decide) rfl rfl ?_
  exact wp_mask [true, true] h
set_option maxRecDepth 20000 in
set_option maxHeartbeats 2000000 in
theorem vc_Reader_stopHere {E : KE} {d : Nat} {σ : Sg} {K : Sg → Prop} (h : (¬ (σ 47 4) = (-1 : Int32) → K σ) ∧ ((σ 47 4) = (-1 : Int32) → ∀ σ1, σ1 = k_put σ 47 (upd (σ 47) 4 (σ 47 3)) → K σ1)) : CallN E shC d mX3_stopHere [.ref 47] σ K := by
  refine wp_enter (Lo := [some (.ref 47)]) mp_X3_stopHere (Nat.le_of_ble_eq_true rfl) rfl ?_
  refine wp_aload_n (i := 0) dX3_stopHere_0 rfl rfl ?_
  refine wp_getI dX3_stopHere_1 lf_X3_30 hC_47 rfl ?_
  refine wp_iconst (v := (-1 : Int32)) dX3_stopHere_4 rfl ?_
  refine wp_icmpne (tgt := 16) dX3_stopHere_5 (by decide) ⟨fun q => ?_, fun q => ?_⟩
  · replace h := h.1 q
    exact wp_return dX3_stopHere_16 rfl ⟨rfl, h⟩
  · replace h := h.2 q
    refine wp_aload_n (i := 0) dX3_stopHere_8 rfl rfl ?_
    refine wp_aload_n (i := 0) dX3_stopHere_9 rfl rfl ?_
    refine wp_getI dX3_stopHere_10 lf_X3_27 hC_47 rfl ?_
    refine wp_put dX3_stopHere_13 lp_X3_30 hC_47 rfl ⟨⟨rfl, rfl⟩, ?_⟩
    refine wp_nm (fun σ1 e2 => ?_)
    replace h := h σ1 e2
    exact wp_return dX3_stopHere_16 rfl ⟨rfl, h⟩
set_option maxRecDepth 20000 in
set_option maxHeartbeats 2000000 in
theorem vc_Reader_readClosing {E : KE} {d : Nat} {σ : Sg} {K : Sg → Prop} (h : CallI E shC d mX3_here [.ref 47] σ (fun y2 σ1 => (¬ y2 = (nI 41) → CallN E shC d mX3_stopHere [.ref 47] σ1 (fun σ3 => K σ3)) ∧ (y2 = (nI 41) → ∀ σ4, σ4 = k_put σ1 47 (upd (σ1 47) 3 ((σ1 47 3) + (nI 1))) → K σ4))) : CallN E shC (d + 1) mX3_readClosing [.ref 47] σ K := by
  refine wp_enter (Lo := [some (.ref 47)]) mp_X3_readClosing (Nat.le_of_ble_eq_true rfl) rfl ?_
  refine wp_aload_n (i := 0) dX3_readClosing_0 rfl rfl ?_
  refine wp_callVI (vs := []) (rest := []) dX3_readClosing_1 mV_X3_here lm_X3_50 hC_47 rfl rfl rfl (Nat.le_of_ble_eq_true rfl) (CallI.mono h (fun y2 σ1 h => ?_))
  refine wp_bipush (v := nI 41) dX3_readClosing_4 (by decide) ?_
  refine wp_icmpne (tgt := 22) dX3_readClosing_6 (by decide) ⟨fun q => ?_, fun q => ?_⟩
  · replace h := h.1 q
    refine wp_aload_n (i := 0) dX3_readClosing_22 rfl rfl ?_
    refine wp_callVN (vs := []) (rest := []) dX3_readClosing_23 mV_X3_stopHere lm_X3_44 hC_47 rfl rfl rfl (Nat.le_of_ble_eq_true rfl) (CallN.mono h (fun σ3 h => ?_))
    exact wp_return dX3_readClosing_26 rfl ⟨rfl, h⟩
  · replace h := h.2 q
    refine wp_aload_n (i := 0) dX3_readClosing_9 rfl rfl ?_
    refine wp_dup dX3_readClosing_10 rfl ?_
    refine wp_getI dX3_readClosing_11 lf_X3_27 hC_47 rfl ?_
    refine wp_iconst (v := nI 1) dX3_readClosing_14 rfl ?_
    refine wp_iadd dX3_readClosing_15 ?_
    refine wp_put dX3_readClosing_16 lp_X3_27 hC_47 rfl ⟨⟨rfl, rfl⟩, ?_⟩
    refine wp_nm (fun σ4 e5 => ?_)
    replace h := h σ4 e5
    refine wp_goto (tgt := 26) dX3_readClosing_19 (by decide) ?_
    exact wp_return dX3_readClosing_26 rfl ⟨rfl, h⟩
set_option maxRecDepth 20000 in
set_option maxHeartbeats 2000000 in
theorem vc_Row_add_48 {E : KE} {d : Nat} {x1 : Int32} {σ : Sg} {K : Sg → Prop} (h : ((nI 60) ≤ (σ 48 1) → K σ) ∧ (¬ (nI 60) ≤ (σ 48 1) → vp_in (σ 48 1) 60 ∧ (∀ σ1, σ1 = k_put σ 49 (upd (σ 49) (σ 48 1).toNatClampNeg x1) → ∀ σ3, σ3 = k_put σ1 48 (upd (σ1 48) 1 ((σ1 48 1) + (nI 1))) → K σ3))) : CallN E shC d mX4_add [.ref 48, .int x1] σ K := by
  refine wp_enter (Lo := [some (.ref 48), some (.int x1)]) mp_X4_add (Nat.le_of_ble_eq_true rfl) rfl ?_
  refine wp_aload_n (i := 0) dX4_add_0 rfl rfl ?_
  refine wp_getI dX4_add_1 lf_X4_13 hC_48 rfl ?_
  refine wp_aload_n (i := 0) dX4_add_4 rfl rfl ?_
  refine wp_getR (t := 49) dX4_add_5 lf_X4_7 hC_48 rfl ?_
  refine wp_alen dX4_add_8 hC_49 ?_
  refine wp_icmpge (tgt := 32) dX4_add_9 (by decide) ⟨fun q => ?_, fun q => ?_⟩
  · replace h := h.1 q
    exact wp_return dX4_add_32 rfl ⟨rfl, h⟩
  · replace h := h.2 q
    refine wp_aload_n (i := 0) dX4_add_12 rfl rfl ?_
    refine wp_getR (t := 49) dX4_add_13 lf_X4_7 hC_48 rfl ?_
    refine wp_aload_n (i := 0) dX4_add_16 rfl rfl ?_
    refine wp_getI dX4_add_17 lf_X4_13 hC_48 rfl ?_
    refine wp_iload_n (i := 1) dX4_add_20 rfl rfl ?_
    refine wp_iast dX4_add_21 hC_49 ⟨h.1, ?_⟩
    refine wp_nm (fun σ1 e2 => ?_)
    replace h := h.2 σ1 e2
    refine wp_aload_n (i := 0) dX4_add_22 rfl rfl ?_
    refine wp_dup dX4_add_23 rfl ?_
    refine wp_getI dX4_add_24 lf_X4_13 hC_48 rfl ?_
    refine wp_iconst (v := nI 1) dX4_add_27 rfl ?_
    refine wp_iadd dX4_add_28 ?_
    refine wp_put dX4_add_29 lp_X4_13 hC_48 rfl ⟨⟨rfl, rfl⟩, ?_⟩
    refine wp_nm (fun σ3 e4 => ?_)
    replace h := h σ3 e4
    exact wp_return dX4_add_32 rfl ⟨rfl, h⟩
set_option maxRecDepth 20000 in
set_option maxHeartbeats 2000000 in
theorem vb_Reader_readNumber_4 {E : KE} {d : Nat} {x1 : Int32} {x2 : Int32} {σ : Sg} {K : Sg → Prop} (h : ((nI 4) ≤ x2 → CallN E shC d mX4_add [.ref 48, .int x1] σ (fun σ1 => K σ1)) ∧ (¬ (nI 4) ≤ x2 → CallI E shC d mX3_here [.ref 47] σ (fun y3 σ2 => CallI E shC d mX3_isDigit [.int y3] σ2 (fun y5 σ4 => (y5 = 0 → CallN E shC d mX4_add [.ref 48, .int x1] σ4 (fun σ6 => K σ6)) ∧ (¬ y5 = 0 → CallI E shC d mX3_here [.ref 47] σ4 (fun y8 σ7 => ∀ σ9, σ9 = k_put σ7 47 (upd (σ7 47) 3 ((σ7 47 3) + (nI 1))) → WP E shC mX3_readNumber (d + 1) 4 [some (.ref 47), some (.int (((x1 * (nI 10)) + y8) - (nI 48))), some (.int (x2 + nI 1))] [] σ9 (k_qn K))))))) : WP E shC mX3_readNumber (d + 1) 4 [some (.ref 47), some (.int x1), some (.int x2)] [] σ (k_qn K) := by
  refine wp_iload_n (i := 2) dX3_readNumber_4 rfl rfl ?_
  refine wp_iconst (v := nI 4) dX3_readNumber_5 rfl ?_
  refine wp_icmpge (tgt := 48) dX3_readNumber_6 (by decide) ⟨fun q => ?_, fun q => ?_⟩
  · replace h := h.1 q
    refine wp_aload_n (i := 0) dX3_readNumber_48 rfl rfl ?_
    refine wp_getR (t := 48) dX3_readNumber_49 lf_X3_14 hC_47 rfl ?_
    refine wp_iload_n (i := 1) dX3_readNumber_52 rfl rfl ?_
    refine wp_callVN (vs := [.int x1]) (rest := []) dX3_readNumber_53 mV_X4_add lm_X3_60 hC_48 rfl rfl rfl (Nat.le_of_ble_eq_true rfl) (CallN.mono h (fun σ1 h => ?_))
    exact wp_return dX3_readNumber_56 rfl ⟨rfl, h⟩
  · replace h := h.2 q
    refine wp_aload_n (i := 0) dX3_readNumber_9 rfl rfl ?_
    refine wp_callVI (vs := []) (rest := []) dX3_readNumber_10 mV_X3_here lm_X3_50 hC_47 rfl rfl rfl (Nat.le_of_ble_eq_true rfl) (CallI.mono h (fun y3 σ2 h => ?_))
    refine wp_callSI (vs := [.int y3]) (rest := []) dX3_readNumber_13 mS_X3_isDigit lm_X3_66 rfl rfl (Nat.le_of_ble_eq_true rfl) (CallI.mono h (fun y5 σ4 h => ?_))
    refine wp_ifeq (tgt := 48) dX3_readNumber_16 (by decide) ⟨fun q => ?_, fun q => ?_⟩
    · replace h := h.1 q
      refine wp_aload_n (i := 0) dX3_readNumber_48 rfl rfl ?_
      refine wp_getR (t := 48) dX3_readNumber_49 lf_X3_14 hC_47 rfl ?_
      refine wp_iload_n (i := 1) dX3_readNumber_52 rfl rfl ?_
      refine wp_callVN (vs := [.int x1]) (rest := []) dX3_readNumber_53 mV_X4_add lm_X3_60 hC_48 rfl rfl rfl (Nat.le_of_ble_eq_true rfl) (CallN.mono h (fun σ6 h => ?_))
      exact wp_return dX3_readNumber_56 rfl ⟨rfl, h⟩
    · replace h := h.2 q
      refine wp_iload_n (i := 1) dX3_readNumber_19 rfl rfl ?_
      refine wp_bipush (v := nI 10) dX3_readNumber_20 (by decide) ?_
      refine wp_imul dX3_readNumber_22 ?_
      refine wp_aload_n (i := 0) dX3_readNumber_23 rfl rfl ?_
      refine wp_callVI (vs := []) (rest := [.int (x1 * (nI 10))]) dX3_readNumber_24 mV_X3_here lm_X3_50 hC_47 rfl rfl rfl (Nat.le_of_ble_eq_true rfl) (CallI.mono h (fun y8 σ7 h => ?_))
      refine wp_iadd dX3_readNumber_27 ?_
      refine wp_bipush (v := nI 48) dX3_readNumber_28 (by decide) ?_
      refine wp_isub dX3_readNumber_30 ?_
      refine wp_istore_n (i := 1) (Lo' := [some (.ref 47), some (.int (((x1 * (nI 10)) + y8) - (nI 48))), some (.int x2)]) dX3_readNumber_31 rfl (by decide) rfl rfl ?_
      refine wp_aload_n (i := 0) dX3_readNumber_32 rfl rfl ?_
      refine wp_dup dX3_readNumber_33 rfl ?_
      refine wp_getI dX3_readNumber_34 lf_X3_27 hC_47 rfl ?_
      refine wp_iconst (v := nI 1) dX3_readNumber_37 rfl ?_
      refine wp_iadd dX3_readNumber_38 ?_
      refine wp_put dX3_readNumber_39 lp_X3_27 hC_47 rfl ⟨⟨rfl, rfl⟩, ?_⟩
      refine wp_nm (fun σ9 e10 => ?_)
      replace h := h σ9 e10
      refine wp_iinc (i := 2) (v := x2 + nI 1) (Lo' := [some (.ref 47), some (.int (((x1 * (nI 10)) + y8) - (nI 48))), some (.int (x2 + nI 1))]) dX3_readNumber_42 rfl (by rfl) (by decide) rfl rfl ?_
      refine wp_goto (tgt := 4) dX3_readNumber_45 (by decide) ?_
      exact wp_mask [true, true, true] h
set_option maxRecDepth 20000 in
set_option maxHeartbeats 2000000 in
theorem vc_Reader_readNumber {E : KE} {d : Nat} {σ : Sg} {K : Sg → Prop} (h : WP E shC mX3_readNumber (d + 1) 4 [some (.ref 47), some (.int (nI 0)), some (.int (nI 0))] [] σ (k_qn K)) : CallN E shC (d + 1) mX3_readNumber [.ref 47] σ K := by
  refine wp_enter (Lo := [some (.ref 47), none, none]) mp_X3_readNumber (Nat.le_of_ble_eq_true rfl) rfl ?_
  refine wp_iconst (v := nI 0) dX3_readNumber_0 rfl ?_
  refine wp_istore_n (i := 1) (Lo' := [some (.ref 47), some (.int (nI 0)), none]) dX3_readNumber_1 rfl (by decide) rfl rfl ?_
  refine wp_iconst (v := nI 0) dX3_readNumber_2 rfl ?_
  refine wp_istore_n (i := 2) (Lo' := [some (.ref 47), some (.int (nI 0)), some (.int (nI 0))]) dX3_readNumber_3 rfl (by decide) rfl rfl ?_
  exact wp_mask [true, true, true] h
set_option maxRecDepth 20000 in
set_option maxHeartbeats 2000000 in
theorem vc_Reader_readQ {E : KE} {d : Nat} {x1 : Int32} {σ : Sg} {K : Sg → Prop} (h : CallI E shC d mX3_nameHere [.ref 47] σ (fun y2 σ1 => CallI E shC d mX3_here [.ref 47] σ1 (fun y4 σ3 => CallI E shC d mX3_isDigit [.int y4] σ3 (fun y6 σ5 => (y6 = 0 → (y2 < 0 → CallI E shC d mX3_here [.ref 47] σ5 (fun y8 σ7 => (¬ y8 = (nI 33) → CallI E shC d mX3_here [.ref 47] σ7 (fun y10 σ9 => (¬ y10 = (nI 40) → CallN E shC d mX3_stopHere [.ref 47] σ9 (fun σ11 => K σ11)) ∧ (y10 = (nI 40) → ((nI 5) ≤ x1 → CallN E shC d mX3_stopHere [.ref 47] σ9 (fun σ12 => K σ12)) ∧ (¬ (nI 5) ≤ x1 → ∀ σ13, σ13 = k_put σ9 47 (upd (σ9 47) 3 ((σ9 47 3) + (nI 1))) → CallN E shC d mX3_readLevel [.ref 47, .int (nI 0), .int (x1 + (nI 1))] σ13 (fun σ15 => CallN E shC d mX3_readClosing [.ref 47] σ15 (fun σ16 => K σ16)))))) ∧ (y8 = (nI 33) → ((nI 5) ≤ x1 → CallI E shC d mX3_here [.ref 47] σ7 (fun y18 σ17 => (¬ y18 = (nI 40) → CallN E shC d mX3_stopHere [.ref 47] σ17 (fun σ19 => K σ19)) ∧ (y18 = (nI 40) → ((nI 5) ≤ x1 → CallN E shC d mX3_stopHere [.ref 47] σ17 (fun σ20 => K σ20)) ∧ (¬ (nI 5) ≤ x1 → ∀ σ21, σ21 = k_put σ17 47 (upd (σ17 47) 3 ((σ17 47 3) + (nI 1))) → CallN E shC d mX3_readLevel [.ref 47, .int (nI 0), .int (x1 + (nI 1))] σ21 (fun σ23 => CallN E shC d mX3_readClosing [.ref 47] σ23 (fun σ24 => K σ24)))))) ∧ (¬ (nI 5) ≤ x1 → ∀ σ25, σ25 = k_put σ7 47 (upd (σ7 47) 3 ((σ7 47 3) + (nI 1))) → CallN E shC d mX3_readQ [.ref 47, .int (x1 + (nI 1))] σ25 (fun σ27 => CallN E shC d mX4_add [.ref 48, .int (nI 20033)] σ27 (fun σ28 => K σ28)))))) ∧ (¬ y2 < 0 → ∀ σ29, σ29 = k_put σ5 47 (upd (σ5 47) 3 ((σ5 47 3) + (nI 1))) → CallN E shC d mX4_add [.ref 48, .int ((nI 10000) + y2)] σ29 (fun σ31 => K σ31))) ∧ (¬ y6 = 0 → CallN E shC d mX3_readNumber [.ref 47] σ5 (fun σ32 => K σ32)))))) : CallN E shC (d + 1) mX3_readQ [.ref 47, .int x1] σ K := by
  refine wp_enter (Lo := [some (.ref 47), some (.int x1), none]) mp_X3_readQ (Nat.le_of_ble_eq_true rfl) rfl ?_
  refine wp_aload_n (i := 0) dX3_readQ_0 rfl rfl ?_
  refine wp_callVI (vs := []) (rest := []) dX3_readQ_1 mV_X3_nameHere lm_X3_63 hC_47 rfl rfl rfl (Nat.le_of_ble_eq_true rfl) (CallI.mono h (fun y2 σ1 h => ?_))
  refine wp_istore_n (i := 2) (Lo' := [some (.ref 47), some (.int x1), some (.int y2)]) dX3_readQ_4 rfl (by decide) rfl rfl ?_
  refine wp_aload_n (i := 0) dX3_readQ_5 rfl rfl ?_
  refine wp_callVI (vs := []) (rest := []) dX3_readQ_6 mV_X3_here lm_X3_50 hC_47 rfl rfl rfl (Nat.le_of_ble_eq_true rfl) (CallI.mono h (fun y4 σ3 h => ?_))
  refine wp_callSI (vs := [.int y4]) (rest := []) dX3_readQ_9 mS_X3_isDigit lm_X3_66 rfl rfl (Nat.le_of_ble_eq_true rfl) (CallI.mono h (fun y6 σ5 h => ?_))
  refine wp_ifeq (tgt := 22) dX3_readQ_12 (by decide) ⟨fun q => ?_, fun q => ?_⟩
  · replace h := h.1 q
    refine wp_iload_n (i := 2) dX3_readQ_22 rfl rfl ?_
    refine wp_iflt (tgt := 51) dX3_readQ_23 (by decide) ⟨fun q => ?_, fun q => ?_⟩
    · replace h := h.1 q
      refine wp_aload_n (i := 0) dX3_readQ_51 rfl rfl ?_
      refine wp_callVI (vs := []) (rest := []) dX3_readQ_52 mV_X3_here lm_X3_50 hC_47 rfl rfl rfl (Nat.le_of_ble_eq_true rfl) (CallI.mono h (fun y8 σ7 h => ?_))
      refine wp_bipush (v := nI 33) dX3_readQ_55 (by decide) ?_
      refine wp_icmpne (tgt := 95) dX3_readQ_57 (by decide) ⟨fun q => ?_, fun q => ?_⟩
      · replace h := h.1 q
        refine wp_aload_n (i := 0) dX3_readQ_95 rfl rfl ?_
        refine wp_callVI (vs := []) (rest := []) dX3_readQ_96 mV_X3_here lm_X3_50 hC_47 rfl rfl rfl (Nat.le_of_ble_eq_true rfl) (CallI.mono h (fun y10 σ9 h => ?_))
        refine wp_bipush (v := nI 40) dX3_readQ_99 (by decide) ?_
        refine wp_icmpne (tgt := 134) dX3_readQ_101 (by decide) ⟨fun q => ?_, fun q => ?_⟩
        · replace h := h.1 q
          refine wp_aload_n (i := 0) dX3_readQ_134 rfl rfl ?_
          refine wp_callVN (vs := []) (rest := []) dX3_readQ_135 mV_X3_stopHere lm_X3_44 hC_47 rfl rfl rfl (Nat.le_of_ble_eq_true rfl) (CallN.mono h (fun σ11 h => ?_))
          exact wp_return dX3_readQ_138 rfl ⟨rfl, h⟩
        · replace h := h.2 q
          refine wp_iload_n (i := 1) dX3_readQ_104 rfl rfl ?_
          refine wp_iconst (v := nI 5) dX3_readQ_105 rfl ?_
          refine wp_icmpge (tgt := 134) dX3_readQ_106 (by decide) ⟨fun q => ?_, fun q => ?_⟩
          · replace h := h.1 q
            refine wp_aload_n (i := 0) dX3_readQ_134 rfl rfl ?_
            refine wp_callVN (vs := []) (rest := []) dX3_readQ_135 mV_X3_stopHere lm_X3_44 hC_47 rfl rfl rfl (Nat.le_of_ble_eq_true rfl) (CallN.mono h (fun σ12 h => ?_))
            exact wp_return dX3_readQ_138 rfl ⟨rfl, h⟩
          · replace h := h.2 q
            refine wp_aload_n (i := 0) dX3_readQ_109 rfl rfl ?_
            refine wp_dup dX3_readQ_110 rfl ?_
            refine wp_getI dX3_readQ_111 lf_X3_27 hC_47 rfl ?_
            refine wp_iconst (v := nI 1) dX3_readQ_114 rfl ?_
            refine wp_iadd dX3_readQ_115 ?_
            refine wp_put dX3_readQ_116 lp_X3_27 hC_47 rfl ⟨⟨rfl, rfl⟩, ?_⟩
            refine wp_nm (fun σ13 e14 => ?_)
            replace h := h σ13 e14
            refine wp_aload_n (i := 0) dX3_readQ_119 rfl rfl ?_
            refine wp_iconst (v := nI 0) dX3_readQ_120 rfl ?_
            refine wp_iload_n (i := 1) dX3_readQ_121 rfl rfl ?_
            refine wp_iconst (v := nI 1) dX3_readQ_122 rfl ?_
            refine wp_iadd dX3_readQ_123 ?_
            refine wp_callVN (vs := [.int (nI 0), .int (x1 + (nI 1))]) (rest := []) dX3_readQ_124 mV_X3_readLevel lm_X3_40 hC_47 rfl rfl rfl (Nat.le_of_ble_eq_true rfl) (CallN.mono h (fun σ15 h => ?_))
            refine wp_aload_n (i := 0) dX3_readQ_127 rfl rfl ?_
            refine wp_callVN (vs := []) (rest := []) dX3_readQ_128 mV_X3_readClosing lm_X3_73 hC_47 rfl rfl rfl (Nat.le_of_ble_eq_true rfl) (CallN.mono h (fun σ16 h => ?_))
            refine wp_goto (tgt := 138) dX3_readQ_131 (by decide) ?_
            exact wp_return dX3_readQ_138 rfl ⟨rfl, h⟩
      · replace h := h.2 q
        refine wp_iload_n (i := 1) dX3_readQ_60 rfl rfl ?_
        refine wp_iconst (v := nI 5) dX3_readQ_61 rfl ?_
        refine wp_icmpge (tgt := 95) dX3_readQ_62 (by decide) ⟨fun q => ?_, fun q => ?_⟩
        · replace h := h.1 q
          refine wp_aload_n (i := 0) dX3_readQ_95 rfl rfl ?_
          refine wp_callVI (vs := []) (rest := []) dX3_readQ_96 mV_X3_here lm_X3_50 hC_47 rfl rfl rfl (Nat.le_of_ble_eq_true rfl) (CallI.mono h (fun y18 σ17 h => ?_))
          refine wp_bipush (v := nI 40) dX3_readQ_99 (by decide) ?_
          refine wp_icmpne (tgt := 134) dX3_readQ_101 (by decide) ⟨fun q => ?_, fun q => ?_⟩
          · replace h := h.1 q
            refine wp_aload_n (i := 0) dX3_readQ_134 rfl rfl ?_
            refine wp_callVN (vs := []) (rest := []) dX3_readQ_135 mV_X3_stopHere lm_X3_44 hC_47 rfl rfl rfl (Nat.le_of_ble_eq_true rfl) (CallN.mono h (fun σ19 h => ?_))
            exact wp_return dX3_readQ_138 rfl ⟨rfl, h⟩
          · replace h := h.2 q
            refine wp_iload_n (i := 1) dX3_readQ_104 rfl rfl ?_
            refine wp_iconst (v := nI 5) dX3_readQ_105 rfl ?_
            refine wp_icmpge (tgt := 134) dX3_readQ_106 (by decide) ⟨fun q => ?_, fun q => ?_⟩
            · replace h := h.1 q
              refine wp_aload_n (i := 0) dX3_readQ_134 rfl rfl ?_
              refine wp_callVN (vs := []) (rest := []) dX3_readQ_135 mV_X3_stopHere lm_X3_44 hC_47 rfl rfl rfl (Nat.le_of_ble_eq_true rfl) (CallN.mono h (fun σ20 h => ?_))
              exact wp_return dX3_readQ_138 rfl ⟨rfl, h⟩
            · replace h := h.2 q
              refine wp_aload_n (i := 0) dX3_readQ_109 rfl rfl ?_
              refine wp_dup dX3_readQ_110 rfl ?_
              refine wp_getI dX3_readQ_111 lf_X3_27 hC_47 rfl ?_
              refine wp_iconst (v := nI 1) dX3_readQ_114 rfl ?_
              refine wp_iadd dX3_readQ_115 ?_
              refine wp_put dX3_readQ_116 lp_X3_27 hC_47 rfl ⟨⟨rfl, rfl⟩, ?_⟩
              refine wp_nm (fun σ21 e22 => ?_)
              replace h := h σ21 e22
              refine wp_aload_n (i := 0) dX3_readQ_119 rfl rfl ?_
              refine wp_iconst (v := nI 0) dX3_readQ_120 rfl ?_
              refine wp_iload_n (i := 1) dX3_readQ_121 rfl rfl ?_
              refine wp_iconst (v := nI 1) dX3_readQ_122 rfl ?_
              refine wp_iadd dX3_readQ_123 ?_
              refine wp_callVN (vs := [.int (nI 0), .int (x1 + (nI 1))]) (rest := []) dX3_readQ_124 mV_X3_readLevel lm_X3_40 hC_47 rfl rfl rfl (Nat.le_of_ble_eq_true rfl) (CallN.mono h (fun σ23 h => ?_))
              refine wp_aload_n (i := 0) dX3_readQ_127 rfl rfl ?_
              refine wp_callVN (vs := []) (rest := []) dX3_readQ_128 mV_X3_readClosing lm_X3_73 hC_47 rfl rfl rfl (Nat.le_of_ble_eq_true rfl) (CallN.mono h (fun σ24 h => ?_))
              refine wp_goto (tgt := 138) dX3_readQ_131 (by decide) ?_
              exact wp_return dX3_readQ_138 rfl ⟨rfl, h⟩
        · replace h := h.2 q
          refine wp_aload_n (i := 0) dX3_readQ_65 rfl rfl ?_
          refine wp_dup dX3_readQ_66 rfl ?_
          refine wp_getI dX3_readQ_67 lf_X3_27 hC_47 rfl ?_
          refine wp_iconst (v := nI 1) dX3_readQ_70 rfl ?_
          refine wp_iadd dX3_readQ_71 ?_
          refine wp_put dX3_readQ_72 lp_X3_27 hC_47 rfl ⟨⟨rfl, rfl⟩, ?_⟩
          refine wp_nm (fun σ25 e26 => ?_)
          replace h := h σ25 e26
          refine wp_aload_n (i := 0) dX3_readQ_75 rfl rfl ?_
          refine wp_iload_n (i := 1) dX3_readQ_76 rfl rfl ?_
          refine wp_iconst (v := nI 1) dX3_readQ_77 rfl ?_
          refine wp_iadd dX3_readQ_78 ?_
          refine wp_callVN (vs := [.int (x1 + (nI 1))]) (rest := []) dX3_readQ_79 mV_X3_readQ lm_X3_47 hC_47 rfl rfl rfl (Nat.le_of_ble_eq_true rfl) (CallN.mono h (fun σ27 h => ?_))
          refine wp_aload_n (i := 0) dX3_readQ_82 rfl rfl ?_
          refine wp_getR (t := 48) dX3_readQ_83 lf_X3_14 hC_47 rfl ?_
          refine wp_sipush (v := nI 20033) dX3_readQ_86 (by decide) ?_
          refine wp_callVN (vs := [.int (nI 20033)]) (rest := []) dX3_readQ_89 mV_X4_add lm_X3_60 hC_48 rfl rfl rfl (Nat.le_of_ble_eq_true rfl) (CallN.mono h (fun σ28 h => ?_))
          refine wp_goto (tgt := 138) dX3_readQ_92 (by decide) ?_
          exact wp_return dX3_readQ_138 rfl ⟨rfl, h⟩
    · replace h := h.2 q
      refine wp_aload_n (i := 0) dX3_readQ_26 rfl rfl ?_
      refine wp_dup dX3_readQ_27 rfl ?_
      refine wp_getI dX3_readQ_28 lf_X3_27 hC_47 rfl ?_
      refine wp_iconst (v := nI 1) dX3_readQ_31 rfl ?_
      refine wp_iadd dX3_readQ_32 ?_
      refine wp_put dX3_readQ_33 lp_X3_27 hC_47 rfl ⟨⟨rfl, rfl⟩, ?_⟩
      refine wp_nm (fun σ29 e30 => ?_)
      replace h := h σ29 e30
      refine wp_aload_n (i := 0) dX3_readQ_36 rfl rfl ?_
      refine wp_getR (t := 48) dX3_readQ_37 lf_X3_14 hC_47 rfl ?_
      refine wp_sipush (v := nI 10000) dX3_readQ_40 (by decide) ?_
      refine wp_iload_n (i := 2) dX3_readQ_43 rfl rfl ?_
      refine wp_iadd dX3_readQ_44 ?_
      refine wp_callVN (vs := [.int ((nI 10000) + y2)]) (rest := []) dX3_readQ_45 mV_X4_add lm_X3_60 hC_48 rfl rfl rfl (Nat.le_of_ble_eq_true rfl) (CallN.mono h (fun σ31 h => ?_))
      refine wp_goto (tgt := 138) dX3_readQ_48 (by decide) ?_
      exact wp_return dX3_readQ_138 rfl ⟨rfl, h⟩
  · replace h := h.2 q
    refine wp_aload_n (i := 0) dX3_readQ_15 rfl rfl ?_
    refine wp_callVN (vs := []) (rest := []) dX3_readQ_16 mV_X3_readNumber lm_X3_70 hC_47 rfl rfl rfl (Nat.le_of_ble_eq_true rfl) (CallN.mono h (fun σ32 h => ?_))
    refine wp_goto (tgt := 138) dX3_readQ_19 (by decide) ?_
    exact wp_return dX3_readQ_138 rfl ⟨rfl, h⟩
set_option maxRecDepth 20000 in
set_option maxHeartbeats 2000000 in
theorem vb_Reader_readLevel_34 {E : KE} {d : Nat} {x1 : Int32} {x2 : Int32} {x3 : Int32} {x4 : Int32} {σ : Sg} {K : Sg → Prop} (h : (x3 ≤ x4 → K σ) ∧ (¬ x3 ≤ x4 → CallI E shC d mX3_here [.ref 47] σ (fun y2 σ1 => CallI E shC d mX3_isSignOf [.int x1, .int y2] σ1 (fun y4 σ3 => (y4 = 0 → K σ3) ∧ (¬ y4 = 0 → CallI E shC d mX3_here [.ref 47] σ3 (fun y6 σ5 => ∀ σ7, σ7 = k_put σ5 47 (upd (σ5 47) 3 ((σ5 47 3) + (nI 1))) → CallN E shC d mX3_readLevel [.ref 47, .int (x1 + (nI 1)), .int x2] σ7 (fun σ9 => CallN E shC d mX4_add [.ref 48, .int ((nI 20000) + y6)] σ9 (fun σ10 => WP E shC mX3_readLevel (d + 1) 34 [some (.ref 47), some (.int x1), some (.int x2), some (.int x3), some (.int (x4 + nI 1)), none] [] σ10 (k_qn K))))))))) : WP E shC mX3_readLevel (d + 1) 34 [some (.ref 47), some (.int x1), some (.int x2), some (.int x3), some (.int x4), none] [] σ (k_qn K) := by
  refine wp_iload (i := 4) dX3_readLevel_34 rfl ?_
  refine wp_iload_n (i := 3) dX3_readLevel_36 rfl rfl ?_
  refine wp_icmpge (tgt := 94) dX3_readLevel_37 (by decide) ⟨fun q => ?_, fun q => ?_⟩
  · replace h := h.1 q
    exact wp_return dX3_readLevel_94 rfl ⟨rfl, h⟩
  · replace h := h.2 q
    refine wp_iload_n (i := 1) dX3_readLevel_40 rfl rfl ?_
    refine wp_aload_n (i := 0) dX3_readLevel_41 rfl rfl ?_
    refine wp_callVI (vs := []) (rest := [.int x1]) dX3_readLevel_42 mV_X3_here lm_X3_50 hC_47 rfl rfl rfl (Nat.le_of_ble_eq_true rfl) (CallI.mono h (fun y2 σ1 h => ?_))
    refine wp_callSI (vs := [.int x1, .int y2]) (rest := []) dX3_readLevel_45 mS_X3_isSignOf lm_X3_54 rfl rfl (Nat.le_of_ble_eq_true rfl) (CallI.mono h (fun y4 σ3 h => ?_))
    refine wp_ifeq (tgt := 94) dX3_readLevel_48 (by decide) ⟨fun q => ?_, fun q => ?_⟩
    · replace h := h.1 q
      exact wp_return dX3_readLevel_94 rfl ⟨rfl, h⟩
    · replace h := h.2 q
      refine wp_aload_n (i := 0) dX3_readLevel_51 rfl rfl ?_
      refine wp_callVI (vs := []) (rest := []) dX3_readLevel_52 mV_X3_here lm_X3_50 hC_47 rfl rfl rfl (Nat.le_of_ble_eq_true rfl) (CallI.mono h (fun y6 σ5 h => ?_))
      refine wp_istore (i := 5) (Lo' := [some (.ref 47), some (.int x1), some (.int x2), some (.int x3), some (.int x4), some (.int y6)]) dX3_readLevel_55 (by decide) rfl rfl ?_
      refine wp_aload_n (i := 0) dX3_readLevel_57 rfl rfl ?_
      refine wp_dup dX3_readLevel_58 rfl ?_
      refine wp_getI dX3_readLevel_59 lf_X3_27 hC_47 rfl ?_
      refine wp_iconst (v := nI 1) dX3_readLevel_62 rfl ?_
      refine wp_iadd dX3_readLevel_63 ?_
      refine wp_put dX3_readLevel_64 lp_X3_27 hC_47 rfl ⟨⟨rfl, rfl⟩, ?_⟩
      refine wp_nm (fun σ7 e8 => ?_)
      replace h := h σ7 e8
      refine wp_aload_n (i := 0) dX3_readLevel_67 rfl rfl ?_
      refine wp_iload_n (i := 1) dX3_readLevel_68 rfl rfl ?_
      refine wp_iconst (v := nI 1) dX3_readLevel_69 rfl ?_
      refine wp_iadd dX3_readLevel_70 ?_
      refine wp_iload_n (i := 2) dX3_readLevel_71 rfl rfl ?_
      refine wp_callVN (vs := [.int (x1 + (nI 1)), .int x2]) (rest := []) dX3_readLevel_72 mV_X3_readLevel lm_X3_40 hC_47 rfl rfl rfl (Nat.le_of_ble_eq_true rfl) (CallN.mono h (fun σ9 h => ?_))
      refine wp_aload_n (i := 0) dX3_readLevel_75 rfl rfl ?_
      refine wp_getR (t := 48) dX3_readLevel_76 lf_X3_14 hC_47 rfl ?_
      refine wp_sipush (v := nI 20000) dX3_readLevel_79 (by decide) ?_
      refine wp_iload (i := 5) dX3_readLevel_82 rfl ?_
      refine wp_iadd dX3_readLevel_84 ?_
      refine wp_callVN (vs := [.int ((nI 20000) + y6)]) (rest := []) dX3_readLevel_85 mV_X4_add lm_X3_60 hC_48 rfl rfl rfl (Nat.le_of_ble_eq_true rfl) (CallN.mono h (fun σ10 h => ?_))
      refine wp_iinc (i := 4) (v := x4 + nI 1) (Lo' := [some (.ref 47), some (.int x1), some (.int x2), some (.int x3), some (.int (x4 + nI 1)), some (.int y6)]) dX3_readLevel_88 rfl (by rfl) (by decide) rfl rfl ?_
      refine wp_goto (tgt := 34) dX3_readLevel_91 (by decide) ?_
      exact wp_mask [true, true, true, true, true, false] h
set_option maxRecDepth 20000 in
set_option maxHeartbeats 2000000 in
theorem vc_Reader_readLevel {E : KE} {d : Nat} {x1 : Int32} {x2 : Int32} {σ : Sg} {K : Sg → Prop} (h : (x1 < (nI 5) → CallN E shC d mX3_readLevel [.ref 47, .int (x1 + (nI 1)), .int x2] σ (fun σ1 => (¬ x1 = (nI 2) → WP E shC mX3_readLevel (d + 1) 34 [some (.ref 47), some (.int x1), some (.int x2), some (.int (nI 60)), some (.int (nI 0)), none] [] σ1 (k_qn K)) ∧ (x1 = (nI 2) → WP E shC mX3_readLevel (d + 1) 34 [some (.ref 47), some (.int x1), some (.int x2), some (.int (nI 1)), some (.int (nI 0)), none] [] σ1 (k_qn K)))) ∧ (¬ x1 < (nI 5) → CallN E shC d mX3_readQ [.ref 47, .int x2] σ (fun σ2 => K σ2))) : CallN E shC (d + 1) mX3_readLevel [.ref 47, .int x1, .int x2] σ K := by
  refine wp_enter (Lo := [some (.ref 47), some (.int x1), some (.int x2), none, none, none]) mp_X3_readLevel (Nat.le_of_ble_eq_true rfl) rfl ?_
  refine wp_iload_n (i := 1) dX3_readLevel_0 rfl rfl ?_
  refine wp_iconst (v := nI 5) dX3_readLevel_1 rfl ?_
  refine wp_icmplt (tgt := 11) dX3_readLevel_2 (by decide) ⟨fun q => ?_, fun q => ?_⟩
  · replace h := h.1 q
    refine wp_aload_n (i := 0) dX3_readLevel_11 rfl rfl ?_
    refine wp_iload_n (i := 1) dX3_readLevel_12 rfl rfl ?_
    refine wp_iconst (v := nI 1) dX3_readLevel_13 rfl ?_
    refine wp_iadd dX3_readLevel_14 ?_
    refine wp_iload_n (i := 2) dX3_readLevel_15 rfl rfl ?_
    refine wp_callVN (vs := [.int (x1 + (nI 1)), .int x2]) (rest := []) dX3_readLevel_16 mV_X3_readLevel lm_X3_40 hC_47 rfl rfl rfl (Nat.le_of_ble_eq_true rfl) (CallN.mono h (fun σ1 h => ?_))
    refine wp_iload_n (i := 1) dX3_readLevel_19 rfl rfl ?_
    refine wp_iconst (v := nI 2) dX3_readLevel_20 rfl ?_
    refine wp_icmpne (tgt := 28) dX3_readLevel_21 (by decide) ⟨fun q => ?_, fun q => ?_⟩
    · replace h := h.1 q
      refine wp_bipush (v := nI 60) dX3_readLevel_28 (by decide) ?_
      refine wp_istore_n (i := 3) (Lo' := [some (.ref 47), some (.int x1), some (.int x2), some (.int (nI 60)), none, none]) dX3_readLevel_30 rfl (by decide) rfl rfl ?_
      refine wp_iconst (v := nI 0) dX3_readLevel_31 rfl ?_
      refine wp_istore (i := 4) (Lo' := [some (.ref 47), some (.int x1), some (.int x2), some (.int (nI 60)), some (.int (nI 0)), none]) dX3_readLevel_32 (by decide) rfl rfl ?_
      exact wp_mask [true, true, true, true, true, false] h
    · replace h := h.2 q
      refine wp_iconst (v := nI 1) dX3_readLevel_24 rfl ?_
      refine wp_goto (tgt := 30) dX3_readLevel_25 (by decide) ?_
      refine wp_istore_n (i := 3) (Lo' := [some (.ref 47), some (.int x1), some (.int x2), some (.int (nI 1)), none, none]) dX3_readLevel_30 rfl (by decide) rfl rfl ?_
      refine wp_iconst (v := nI 0) dX3_readLevel_31 rfl ?_
      refine wp_istore (i := 4) (Lo' := [some (.ref 47), some (.int x1), some (.int x2), some (.int (nI 1)), some (.int (nI 0)), none]) dX3_readLevel_32 (by decide) rfl rfl ?_
      exact wp_mask [true, true, true, true, true, false] h
  · replace h := h.2 q
    refine wp_aload_n (i := 0) dX3_readLevel_5 rfl rfl ?_
    refine wp_iload_n (i := 2) dX3_readLevel_6 rfl rfl ?_
    refine wp_callVN (vs := [.int x2]) (rest := []) dX3_readLevel_7 mV_X3_readQ lm_X3_47 hC_47 rfl rfl rfl (Nat.le_of_ble_eq_true rfl) (CallN.mono h (fun σ2 h => ?_))
    exact wp_return dX3_readLevel_10 rfl ⟨rfl, h⟩
set_option maxRecDepth 20000 in
set_option maxHeartbeats 2000000 in
theorem vc_Reader_faultOf {E : KE} {d : Nat} {x2 : Int32} {σ : Sg} {K : Int32 → Sg → Prop} (h : CallN E shC d mX4_copyFrom [.ref 50, .ref 20] σ (fun σ1 => ∀ σ2, σ2 = k_put σ1 47 (upd (σ1 47) 2 x2) → ∀ σ4, σ4 = k_put σ2 47 (upd (σ2 47) 3 (nI 0)) → ∀ σ6, σ6 = k_put σ4 47 (upd (σ4 47) 4 (-1 : Int32)) → ∀ σ8, σ8 = k_put σ6 48 (upd (σ6 48) 1 (nI 0)) → CallN E shC d mX3_readLevel [.ref 47, .int (nI 0), .int (nI 0)] σ8 (fun σ10 => ((σ10 50 1) ≤ (σ10 47 3) → K (σ10 47 4) σ10) ∧ (¬ (σ10 50 1) ≤ (σ10 47 3) → CallN E shC d mX3_stopHere [.ref 47] σ10 (fun σ11 => K (σ11 47 4) σ11))))) : CallI E shC (d + 1) mX3_faultOf [.ref 47, .ref 20, .int x2] σ K := by
  refine wp_enter (Lo := [some (.ref 47), some (.ref 20), some (.int x2)]) mp_X3_faultOf (Nat.le_of_ble_eq_true rfl) rfl ?_
  refine wp_aload_n (i := 0) dX3_faultOf_0 rfl rfl ?_
  refine wp_getR (t := 50) dX3_faultOf_1 lf_X3_20 hC_47 rfl ?_
  refine wp_aload_n (i := 1) dX3_faultOf_4 rfl rfl ?_
  refine wp_callVN (vs := [.ref 20]) (rest := []) dX3_faultOf_5 mV_X4_copyFrom lm_X3_33 hC_50 rfl rfl rfl (Nat.le_of_ble_eq_true rfl) (CallN.mono h (fun σ1 h => ?_))
  refine wp_aload_n (i := 0) dX3_faultOf_8 rfl rfl ?_
  refine wp_iload_n (i := 2) dX3_faultOf_9 rfl rfl ?_
  refine wp_put dX3_faultOf_10 lp_X3_23 hC_47 rfl ⟨⟨rfl, rfl⟩, ?_⟩
  refine wp_nm (fun σ2 e3 => ?_)
  replace h := h σ2 e3
  refine wp_aload_n (i := 0) dX3_faultOf_13 rfl rfl ?_
  refine wp_iconst (v := nI 0) dX3_faultOf_14 rfl ?_
  refine wp_put dX3_faultOf_15 lp_X3_27 hC_47 rfl ⟨⟨rfl, rfl⟩, ?_⟩
  refine wp_nm (fun σ4 e5 => ?_)
  replace h := h σ4 e5
  refine wp_aload_n (i := 0) dX3_faultOf_18 rfl rfl ?_
  refine wp_iconst (v := (-1 : Int32)) dX3_faultOf_19 rfl ?_
  refine wp_put dX3_faultOf_20 lp_X3_30 hC_47 rfl ⟨⟨rfl, rfl⟩, ?_⟩
  refine wp_nm (fun σ6 e7 => ?_)
  replace h := h σ6 e7
  refine wp_aload_n (i := 0) dX3_faultOf_23 rfl rfl ?_
  refine wp_getR (t := 48) dX3_faultOf_24 lf_X3_14 hC_47 rfl ?_
  refine wp_iconst (v := nI 0) dX3_faultOf_27 rfl ?_
  refine wp_put dX3_faultOf_28 lp_X3_37 hC_48 rfl ⟨⟨rfl, rfl⟩, ?_⟩
  refine wp_nm (fun σ8 e9 => ?_)
  replace h := h σ8 e9
  refine wp_aload_n (i := 0) dX3_faultOf_31 rfl rfl ?_
  refine wp_iconst (v := nI 0) dX3_faultOf_32 rfl ?_
  refine wp_iconst (v := nI 0) dX3_faultOf_33 rfl ?_
  refine wp_callVN (vs := [.int (nI 0), .int (nI 0)]) (rest := []) dX3_faultOf_34 mV_X3_readLevel lm_X3_40 hC_47 rfl rfl rfl (Nat.le_of_ble_eq_true rfl) (CallN.mono h (fun σ10 h => ?_))
  refine wp_aload_n (i := 0) dX3_faultOf_37 rfl rfl ?_
  refine wp_getI dX3_faultOf_38 lf_X3_27 hC_47 rfl ?_
  refine wp_aload_n (i := 0) dX3_faultOf_41 rfl rfl ?_
  refine wp_getR (t := 50) dX3_faultOf_42 lf_X3_20 hC_47 rfl ?_
  refine wp_getI dX3_faultOf_45 lf_X3_37 hC_50 rfl ?_
  refine wp_icmpge (tgt := 55) dX3_faultOf_48 (by decide) ⟨fun q => ?_, fun q => ?_⟩
  · replace h := h.1 q
    refine wp_aload_n (i := 0) dX3_faultOf_55 rfl rfl ?_
    refine wp_getI dX3_faultOf_56 lf_X3_30 hC_47 rfl ?_
    exact wp_ireturn dX3_faultOf_59 rfl ⟨_, rfl, h⟩
  · replace h := h.2 q
    refine wp_aload_n (i := 0) dX3_faultOf_51 rfl rfl ?_
    refine wp_callVN (vs := []) (rest := []) dX3_faultOf_52 mV_X3_stopHere lm_X3_44 hC_47 rfl rfl rfl (Nat.le_of_ble_eq_true rfl) (CallN.mono h (fun σ11 h => ?_))
    refine wp_aload_n (i := 0) dX3_faultOf_55 rfl rfl ?_
    refine wp_getI dX3_faultOf_56 lf_X3_30 hC_47 rfl ?_
    exact wp_ireturn dX3_faultOf_59 rfl ⟨_, rfl, h⟩
set_option maxRecDepth 20000 in
set_option maxHeartbeats 2000000 in
theorem vc_World_textOf {E : KE} {d : Nat} {x1 : Int32} {σ : Sg} {K : Nat → Sg → Prop} (h : (¬ x1 = 0 → K 16 σ) ∧ (x1 = 0 → K 12 σ)) : CallJ E shC d mX9_textOf [.ref 1, .int x1] σ K := by
  refine wp_enter (Lo := [some (.ref 1), some (.int x1)]) mp_X9_textOf (Nat.le_of_ble_eq_true rfl) rfl ?_
  refine wp_iload_n (i := 1) dX9_textOf_0 rfl rfl ?_
  refine wp_ifne (tgt := 11) dX9_textOf_1 (by decide) ⟨fun q => ?_, fun q => ?_⟩
  · replace h := h.1 q
    refine wp_aload_n (i := 0) dX9_textOf_11 rfl rfl ?_
    refine wp_getR (t := 16) dX9_textOf_12 lf_X9_32 hC_1 rfl ?_
    exact wp_areturn dX9_textOf_15 rfl ⟨_, rfl, h⟩
  · replace h := h.2 q
    refine wp_aload_n (i := 0) dX9_textOf_4 rfl rfl ?_
    refine wp_getR (t := 12) dX9_textOf_5 lf_X9_28 hC_1 rfl ?_
    refine wp_goto (tgt := 15) dX9_textOf_8 (by decide) ?_
    exact wp_areturn dX9_textOf_15 rfl ⟨_, rfl, h⟩
set_option maxRecDepth 20000 in
set_option maxHeartbeats 2000000 in
theorem vc_Row_copyFrom_13_48 {E : KE} {d : Nat} {σ : Sg} {K : Sg → Prop} (h : ∀ σ1, σ1 = k_put σ 13 (upd (σ 13) 1 (if (nI 60) < (σ 48 1) then (nI 60) else (σ 48 1))) → (¬ (nI 0) < 0 ∧ ¬ (nI 0) < 0 ∧ ¬ (σ1 13 1) < 0 ∧ (nI 0).toNatClampNeg + (σ1 13 1).toNatClampNeg ≤ 60 ∧ (nI 0).toNatClampNeg + (σ1 13 1).toNatClampNeg ≤ 60) ∧ (∀ σ3, σ3 = k_put σ1 14 (va_cpy (σ1 49) (σ1 14) (nI 0).toNatClampNeg (nI 0).toNatClampNeg (σ1 13 1).toNatClampNeg) → K σ3)) : CallN E shC d mX4_copyFrom [.ref 13, .ref 48] σ K := by
  refine wp_enter (Lo := [some (.ref 13), some (.ref 48)]) mp_X4_copyFrom (Nat.le_of_ble_eq_true rfl) rfl ?_
  refine wp_aload_n (i := 0) dX4_copyFrom_0 rfl rfl ?_
  refine wp_aload_n (i := 1) dX4_copyFrom_1 rfl rfl ?_
  refine wp_getI dX4_copyFrom_2 lf_X4_13 hC_48 rfl ?_
  refine wp_aload_n (i := 0) dX4_copyFrom_5 rfl rfl ?_
  refine wp_getR (t := 14) dX4_copyFrom_6 lf_X4_7 hC_13 rfl ?_
  refine wp_alen dX4_copyFrom_9 hC_14 ?_
  refine wp_mmin dX4_copyFrom_10 (lmin lm_X4_17) (Nat.le_of_ble_eq_true rfl) ?_
  refine wp_put dX4_copyFrom_13 lp_X4_13 hC_13 rfl ⟨⟨rfl, rfl⟩, ?_⟩
  refine wp_nm (fun σ1 e2 => ?_)
  replace h := h σ1 e2
  refine wp_aload_n (i := 1) dX4_copyFrom_16 rfl rfl ?_
  refine wp_getR (t := 49) dX4_copyFrom_17 lf_X4_7 hC_48 rfl ?_
  refine wp_iconst (v := nI 0) dX4_copyFrom_20 rfl ?_
  refine wp_aload_n (i := 0) dX4_copyFrom_21 rfl rfl ?_
  refine wp_getR (t := 14) dX4_copyFrom_22 lf_X4_7 hC_13 rfl ?_
  refine wp_iconst (v := nI 0) dX4_copyFrom_25 rfl ?_
  refine wp_aload_n (i := 0) dX4_copyFrom_26 rfl rfl ?_
  refine wp_getI dX4_copyFrom_27 lf_X4_13 hC_13 rfl ?_
  refine wp_copy dX4_copyFrom_30 lc_X4_23_copy hC_49 hC_14 (Nat.le_of_ble_eq_true rfl) ⟨h.1, ?_⟩
  refine wp_nm (fun σ3 e4 => ?_)
  replace h := h.2 σ3 e4
  exact wp_return dX4_copyFrom_33 rfl ⟨rfl, h⟩
set_option maxRecDepth 20000 in
set_option maxHeartbeats 2000000 in
theorem vc_Row_copyFrom_17_48 {E : KE} {d : Nat} {σ : Sg} {K : Sg → Prop} (h : ∀ σ1, σ1 = k_put σ 17 (upd (σ 17) 1 (if (nI 60) < (σ 48 1) then (nI 60) else (σ 48 1))) → (¬ (nI 0) < 0 ∧ ¬ (nI 0) < 0 ∧ ¬ (σ1 17 1) < 0 ∧ (nI 0).toNatClampNeg + (σ1 17 1).toNatClampNeg ≤ 60 ∧ (nI 0).toNatClampNeg + (σ1 17 1).toNatClampNeg ≤ 60) ∧ (∀ σ3, σ3 = k_put σ1 18 (va_cpy (σ1 49) (σ1 18) (nI 0).toNatClampNeg (nI 0).toNatClampNeg (σ1 17 1).toNatClampNeg) → K σ3)) : CallN E shC d mX4_copyFrom [.ref 17, .ref 48] σ K := by
  refine wp_enter (Lo := [some (.ref 17), some (.ref 48)]) mp_X4_copyFrom (Nat.le_of_ble_eq_true rfl) rfl ?_
  refine wp_aload_n (i := 0) dX4_copyFrom_0 rfl rfl ?_
  refine wp_aload_n (i := 1) dX4_copyFrom_1 rfl rfl ?_
  refine wp_getI dX4_copyFrom_2 lf_X4_13 hC_48 rfl ?_
  refine wp_aload_n (i := 0) dX4_copyFrom_5 rfl rfl ?_
  refine wp_getR (t := 18) dX4_copyFrom_6 lf_X4_7 hC_17 rfl ?_
  refine wp_alen dX4_copyFrom_9 hC_18 ?_
  refine wp_mmin dX4_copyFrom_10 (lmin lm_X4_17) (Nat.le_of_ble_eq_true rfl) ?_
  refine wp_put dX4_copyFrom_13 lp_X4_13 hC_17 rfl ⟨⟨rfl, rfl⟩, ?_⟩
  refine wp_nm (fun σ1 e2 => ?_)
  replace h := h σ1 e2
  refine wp_aload_n (i := 1) dX4_copyFrom_16 rfl rfl ?_
  refine wp_getR (t := 49) dX4_copyFrom_17 lf_X4_7 hC_48 rfl ?_
  refine wp_iconst (v := nI 0) dX4_copyFrom_20 rfl ?_
  refine wp_aload_n (i := 0) dX4_copyFrom_21 rfl rfl ?_
  refine wp_getR (t := 18) dX4_copyFrom_22 lf_X4_7 hC_17 rfl ?_
  refine wp_iconst (v := nI 0) dX4_copyFrom_25 rfl ?_
  refine wp_aload_n (i := 0) dX4_copyFrom_26 rfl rfl ?_
  refine wp_getI dX4_copyFrom_27 lf_X4_13 hC_17 rfl ?_
  refine wp_copy dX4_copyFrom_30 lc_X4_23_copy hC_49 hC_18 (Nat.le_of_ble_eq_true rfl) ⟨h.1, ?_⟩
  refine wp_nm (fun σ3 e4 => ?_)
  replace h := h.2 σ3 e4
  exact wp_return dX4_copyFrom_33 rfl ⟨rfl, h⟩
set_option maxRecDepth 20000 in
set_option maxHeartbeats 2000000 in
theorem vc_SD_text {E : KE} {d : Nat} {x1 : Int32} {σ : Sg} {K : Int32 → Sg → Prop} (h : CallI E shC d mX10_isUse [.int x1] σ (fun y2 σ1 => (¬ y2 = 0 → CallI E shC d mX3_faultOf [.ref 47, .ref 20, .int x1] σ1 (fun y4 σ3 => ∀ σ5, σ5 = k_put σ3 20 (upd (σ3 20) 1 (nI 0)) → (y4 < 0 → CallJ E shC d mX9_textOf [.ref 1, .int x1] σ5 (fun y8 σ7 => (y8 = 12 → CallN E shC d mX4_copyFrom [.ref 13, .ref 48] σ7 (fun σ9 => K (nI 1) σ9)) ∧ (y8 = 16 → CallN E shC d mX4_copyFrom [.ref 17, .ref 48] σ7 (fun σ10 => K (nI 1) σ10)) ∧ (y8 = 12 ∨ y8 = 16))) ∧ (¬ y4 < 0 → K ((-10 : Int32) - y4) σ5))) ∧ (y2 = 0 → CallI E shC d mX10_error [.ref 0, .int (nI 1)] σ1 (fun y12 σ11 => K y12 σ11)))) : CallI E shC (d + 1) mX10_text [.ref 0, .int x1] σ K := by
  refine wp_enter (Lo := [some (.ref 0), some (.int x1), none]) mp_X10_text (Nat.le_of_ble_eq_true rfl) rfl ?_
  refine wp_iload_n (i := 1) dX10_text_0 rfl rfl ?_
  refine wp_callSI (vs := [.int x1]) (rest := []) dX10_text_1 mS_X10_isUse lm_X10_174 rfl rfl (Nat.le_of_ble_eq_true rfl) (CallI.mono h (fun y2 σ1 h => ?_))
  refine wp_ifne (tgt := 13) dX10_text_4 (by decide) ⟨fun q => ?_, fun q => ?_⟩
  · replace h := h.1 q
    refine wp_aload_n (i := 0) dX10_text_13 rfl rfl ?_
    refine wp_getR (t := 47) dX10_text_14 lf_X10_22 hC_0 rfl ?_
    refine wp_aload_n (i := 0) dX10_text_17 rfl rfl ?_
    refine wp_getR (t := 1) dX10_text_18 lf_X10_10 hC_0 rfl ?_
    refine wp_getR (t := 20) dX10_text_21 lf_X10_163 hC_1 rfl ?_
    refine wp_iload_n (i := 1) dX10_text_24 rfl rfl ?_
    refine wp_callVI (vs := [.ref 20, .int x1]) (rest := []) dX10_text_25 mV_X3_faultOf lm_X10_177 hC_47 rfl rfl rfl (Nat.le_of_ble_eq_true rfl) (CallI.mono h (fun y4 σ3 h => ?_))
    refine wp_istore_n (i := 2) (Lo' := [some (.ref 0), some (.int x1), some (.int y4)]) dX10_text_28 rfl (by decide) rfl rfl ?_
    refine wp_aload_n (i := 0) dX10_text_29 rfl rfl ?_
    refine wp_getR (t := 1) dX10_text_30 lf_X10_10 hC_0 rfl ?_
    refine wp_getR (t := 20) dX10_text_33 lf_X10_163 hC_1 rfl ?_
    refine wp_iconst (v := nI 0) dX10_text_36 rfl ?_
    refine wp_put dX10_text_37 lp_X10_167 hC_20 rfl ⟨⟨rfl, rfl⟩, ?_⟩
    refine wp_nm (fun σ5 e6 => ?_)
    replace h := h σ5 e6
    refine wp_iload_n (i := 2) dX10_text_40 rfl rfl ?_
    refine wp_iflt (tgt := 49) dX10_text_41 (by decide) ⟨fun q => ?_, fun q => ?_⟩
    · replace h := h.1 q
      refine wp_aload_n (i := 0) dX10_text_49 rfl rfl ?_
      refine wp_getR (t := 1) dX10_text_50 lf_X10_10 hC_0 rfl ?_
      refine wp_iload_n (i := 1) dX10_text_53 rfl rfl ?_
      refine wp_callVJ (vs := [.int x1]) (rest := []) dX10_text_54 mV_X9_textOf lm_X10_181 hC_1 rfl rfl rfl (Nat.le_of_ble_eq_true rfl) (CallJ.mono h (fun y8 σ7 h => ?_))
      rcases h.2.2 with q | q
      · replace h := h.1 q
        subst q
        refine wp_getR (t := 13) dX10_text_57 lf_X10_185 hC_12 rfl ?_
        refine wp_aload_n (i := 0) dX10_text_60 rfl rfl ?_
        refine wp_getR (t := 47) dX10_text_61 lf_X10_22 hC_0 rfl ?_
        refine wp_getR (t := 48) dX10_text_64 lf_X10_190 hC_47 rfl ?_
        refine wp_callVN (vs := [.ref 48]) (rest := []) dX10_text_67 mV_X4_copyFrom lm_X10_191 hC_13 rfl rfl rfl (Nat.le_of_ble_eq_true rfl) (CallN.mono h (fun σ9 h => ?_))
        refine wp_iconst (v := nI 1) dX10_text_70 rfl ?_
        exact wp_ireturn dX10_text_71 rfl ⟨_, rfl, h⟩
      · replace h := h.2.1 q
        subst q
        refine wp_getR (t := 17) dX10_text_57 lf_X10_185 hC_16 rfl ?_
        refine wp_aload_n (i := 0) dX10_text_60 rfl rfl ?_
        refine wp_getR (t := 47) dX10_text_61 lf_X10_22 hC_0 rfl ?_
        refine wp_getR (t := 48) dX10_text_64 lf_X10_190 hC_47 rfl ?_
        refine wp_callVN (vs := [.ref 48]) (rest := []) dX10_text_67 mV_X4_copyFrom lm_X10_191 hC_17 rfl rfl rfl (Nat.le_of_ble_eq_true rfl) (CallN.mono h (fun σ10 h => ?_))
        refine wp_iconst (v := nI 1) dX10_text_70 rfl ?_
        exact wp_ireturn dX10_text_71 rfl ⟨_, rfl, h⟩
    · replace h := h.2 q
      refine wp_bipush (v := (-10 : Int32)) dX10_text_44 (by decide) ?_
      refine wp_iload_n (i := 2) dX10_text_46 rfl rfl ?_
      refine wp_isub dX10_text_47 ?_
      exact wp_ireturn dX10_text_48 rfl ⟨_, rfl, h⟩
  · replace h := h.2 q
    refine wp_aload_n (i := 0) dX10_text_7 rfl rfl ?_
    refine wp_iconst (v := nI 1) dX10_text_8 rfl ?_
    refine wp_callVI (vs := [.int (nI 1)]) (rest := []) dX10_text_9 mV_X10_error lm_X10_62 hC_0 rfl rfl rfl (Nat.le_of_ble_eq_true rfl) (CallI.mono h (fun y12 σ11 h => ?_))
    exact wp_ireturn dX10_text_12 rfl ⟨_, rfl, h⟩
set_option maxRecDepth 20000 in
set_option maxHeartbeats 2000000 in
theorem vc_SD_untell {E : KE} {d : Nat} {x1 : Int32} {σ : Sg} {K : Int32 → Sg → Prop} (h : CallI E shC d mX10_isUse [.int x1] σ (fun y2 σ1 => (¬ y2 = 0 → CallJ E shC d mX9_textOf [.ref 1, .int x1] σ1 (fun y4 σ3 => (y4 = 12 → CallI E shC d mX6_isThere [.ref 12] σ3 (fun y6 σ5 => (y6 = 0 → CallJ E shC d mX9_textOf [.ref 1, .int x1] σ5 (fun y8 σ7 => (y8 = 12 → ∀ σ9, σ9 = k_put σ7 13 (upd (σ7 13) 1 (nI 0)) → K (nI 0) σ9) ∧ (y8 = 16 → ∀ σ11, σ11 = k_put σ7 17 (upd (σ7 17) 1 (nI 0)) → K (nI 0) σ11) ∧ (y8 = 12 ∨ y8 = 16))) ∧ (¬ y6 = 0 → CallJ E shC d mX9_textOf [.ref 1, .int x1] σ5 (fun y14 σ13 => (y14 = 12 → ∀ σ15, σ15 = k_put σ13 13 (upd (σ13 13) 1 (nI 0)) → K (nI 1) σ15) ∧ (y14 = 16 → ∀ σ17, σ17 = k_put σ13 17 (upd (σ13 17) 1 (nI 0)) → K (nI 1) σ17) ∧ (y14 = 12 ∨ y14 = 16))))) ∧ (y4 = 16 → CallI E shC d mX6_isThere [.ref 16] σ3 (fun y20 σ19 => (y20 = 0 → CallJ E shC d mX9_textOf [.ref 1, .int x1] σ19 (fun y22 σ21 => (y22 = 12 → ∀ σ23, σ23 = k_put σ21 13 (upd (σ21 13) 1 (nI 0)) → K (nI 0) σ23) ∧ (y22 = 16 → ∀ σ25, σ25 = k_put σ21 17 (upd (σ21 17) 1 (nI 0)) → K (nI 0) σ25) ∧ (y22 = 12 ∨ y22 = 16))) ∧ (¬ y20 = 0 → CallJ E shC d mX9_textOf [.ref 1, .int x1] σ19 (fun y28 σ27 => (y28 = 12 → ∀ σ29, σ29 = k_put σ27 13 (upd (σ27 13) 1 (nI 0)) → K (nI 1) σ29) ∧ (y28 = 16 → ∀ σ31, σ31 = k_put σ27 17 (upd (σ27 17) 1 (nI 0)) → K (nI 1) σ31) ∧ (y28 = 12 ∨ y28 = 16))))) ∧ (y4 = 12 ∨ y4 = 16))) ∧ (y2 = 0 → CallI E shC d mX10_error [.ref 0, .int (nI 1)] σ1 (fun y34 σ33 => K y34 σ33)))) : CallI E shC (d + 1) mX10_untell [.ref 0, .int x1] σ K := by
  refine wp_enter (Lo := [some (.ref 0), some (.int x1), none]) mp_X10_untell (Nat.le_of_ble_eq_true rfl) rfl ?_
  refine wp_iload_n (i := 1) dX10_untell_0 rfl rfl ?_
  refine wp_callSI (vs := [.int x1]) (rest := []) dX10_untell_1 mS_X10_isUse lm_X10_174 rfl rfl (Nat.le_of_ble_eq_true rfl) (CallI.mono h (fun y2 σ1 h => ?_))
  refine wp_ifne (tgt := 13) dX10_untell_4 (by decide) ⟨fun q => ?_, fun q => ?_⟩
  · replace h := h.1 q
    refine wp_aload_n (i := 0) dX10_untell_13 rfl rfl ?_
    refine wp_getR (t := 1) dX10_untell_14 lf_X10_10 hC_0 rfl ?_
    refine wp_iload_n (i := 1) dX10_untell_17 rfl rfl ?_
    refine wp_callVJ (vs := [.int x1]) (rest := []) dX10_untell_18 mV_X9_textOf lm_X10_181 hC_1 rfl rfl rfl (Nat.le_of_ble_eq_true rfl) (CallJ.mono h (fun y4 σ3 h => ?_))
    rcases h.2.2 with q | q
    · replace h := h.1 q
      subst q
      refine wp_callVI (vs := []) (rest := []) dX10_untell_21 mV_X6_isThere lm_X10_195 hC_12 rfl rfl rfl (Nat.le_of_ble_eq_true rfl) (CallI.mono h (fun y6 σ5 h => ?_))
      refine wp_ifeq (tgt := 31) dX10_untell_24 (by decide) ⟨fun q => ?_, fun q => ?_⟩
      · replace h := h.1 q
        refine wp_iconst (v := nI 0) dX10_untell_31 rfl ?_
        refine wp_istore_n (i := 2) (Lo' := [some (.ref 0), some (.int x1), some (.int (nI 0))]) dX10_untell_32 rfl (by decide) rfl rfl ?_
        refine wp_aload_n (i := 0) dX10_untell_33 rfl rfl ?_
        refine wp_getR (t := 1) dX10_untell_34 lf_X10_10 hC_0 rfl ?_
        refine wp_iload_n (i := 1) dX10_untell_37 rfl rfl ?_
        refine wp_callVJ (vs := [.int x1]) (rest := []) dX10_untell_38 mV_X9_textOf lm_X10_181 hC_1 rfl rfl rfl (Nat.le_of_ble_eq_true rfl) (CallJ.mono h (fun y8 σ7 h => ?_))
        rcases h.2.2 with q | q
        · replace h := h.1 q
          subst q
          refine wp_getR (t := 13) dX10_untell_41 lf_X10_185 hC_12 rfl ?_
          refine wp_iconst (v := nI 0) dX10_untell_44 rfl ?_
          refine wp_put dX10_untell_45 lp_X10_167 hC_13 rfl ⟨⟨rfl, rfl⟩, ?_⟩
          refine wp_nm (fun σ9 e10 => ?_)
          replace h := h σ9 e10
          refine wp_iload_n (i := 2) dX10_untell_48 rfl rfl ?_
          exact wp_ireturn dX10_untell_49 rfl ⟨_, rfl, h⟩
        · replace h := h.2.1 q
          subst q
          refine wp_getR (t := 17) dX10_untell_41 lf_X10_185 hC_16 rfl ?_
          refine wp_iconst (v := nI 0) dX10_untell_44 rfl ?_
          refine wp_put dX10_untell_45 lp_X10_167 hC_17 rfl ⟨⟨rfl, rfl⟩, ?_⟩
          refine wp_nm (fun σ11 e12 => ?_)
          replace h := h σ11 e12
          refine wp_iload_n (i := 2) dX10_untell_48 rfl rfl ?_
          exact wp_ireturn dX10_untell_49 rfl ⟨_, rfl, h⟩
      · replace h := h.2 q
        refine wp_iconst (v := nI 1) dX10_untell_27 rfl ?_
        refine wp_goto (tgt := 32) dX10_untell_28 (by decide) ?_
        refine wp_istore_n (i := 2) (Lo' := [some (.ref 0), some (.int x1), some (.int (nI 1))]) dX10_untell_32 rfl (by decide) rfl rfl ?_
        refine wp_aload_n (i := 0) dX10_untell_33 rfl rfl ?_
        refine wp_getR (t := 1) dX10_untell_34 lf_X10_10 hC_0 rfl ?_
        refine wp_iload_n (i := 1) dX10_untell_37 rfl rfl ?_
        refine wp_callVJ (vs := [.int x1]) (rest := []) dX10_untell_38 mV_X9_textOf lm_X10_181 hC_1 rfl rfl rfl (Nat.le_of_ble_eq_true rfl) (CallJ.mono h (fun y14 σ13 h => ?_))
        rcases h.2.2 with q | q
        · replace h := h.1 q
          subst q
          refine wp_getR (t := 13) dX10_untell_41 lf_X10_185 hC_12 rfl ?_
          refine wp_iconst (v := nI 0) dX10_untell_44 rfl ?_
          refine wp_put dX10_untell_45 lp_X10_167 hC_13 rfl ⟨⟨rfl, rfl⟩, ?_⟩
          refine wp_nm (fun σ15 e16 => ?_)
          replace h := h σ15 e16
          refine wp_iload_n (i := 2) dX10_untell_48 rfl rfl ?_
          exact wp_ireturn dX10_untell_49 rfl ⟨_, rfl, h⟩
        · replace h := h.2.1 q
          subst q
          refine wp_getR (t := 17) dX10_untell_41 lf_X10_185 hC_16 rfl ?_
          refine wp_iconst (v := nI 0) dX10_untell_44 rfl ?_
          refine wp_put dX10_untell_45 lp_X10_167 hC_17 rfl ⟨⟨rfl, rfl⟩, ?_⟩
          refine wp_nm (fun σ17 e18 => ?_)
          replace h := h σ17 e18
          refine wp_iload_n (i := 2) dX10_untell_48 rfl rfl ?_
          exact wp_ireturn dX10_untell_49 rfl ⟨_, rfl, h⟩
    · replace h := h.2.1 q
      subst q
      refine wp_callVI (vs := []) (rest := []) dX10_untell_21 mV_X6_isThere lm_X10_195 hC_16 rfl rfl rfl (Nat.le_of_ble_eq_true rfl) (CallI.mono h (fun y20 σ19 h => ?_))
      refine wp_ifeq (tgt := 31) dX10_untell_24 (by decide) ⟨fun q => ?_, fun q => ?_⟩
      · replace h := h.1 q
        refine wp_iconst (v := nI 0) dX10_untell_31 rfl ?_
        refine wp_istore_n (i := 2) (Lo' := [some (.ref 0), some (.int x1), some (.int (nI 0))]) dX10_untell_32 rfl (by decide) rfl rfl ?_
        refine wp_aload_n (i := 0) dX10_untell_33 rfl rfl ?_
        refine wp_getR (t := 1) dX10_untell_34 lf_X10_10 hC_0 rfl ?_
        refine wp_iload_n (i := 1) dX10_untell_37 rfl rfl ?_
        refine wp_callVJ (vs := [.int x1]) (rest := []) dX10_untell_38 mV_X9_textOf lm_X10_181 hC_1 rfl rfl rfl (Nat.le_of_ble_eq_true rfl) (CallJ.mono h (fun y22 σ21 h => ?_))
        rcases h.2.2 with q | q
        · replace h := h.1 q
          subst q
          refine wp_getR (t := 13) dX10_untell_41 lf_X10_185 hC_12 rfl ?_
          refine wp_iconst (v := nI 0) dX10_untell_44 rfl ?_
          refine wp_put dX10_untell_45 lp_X10_167 hC_13 rfl ⟨⟨rfl, rfl⟩, ?_⟩
          refine wp_nm (fun σ23 e24 => ?_)
          replace h := h σ23 e24
          refine wp_iload_n (i := 2) dX10_untell_48 rfl rfl ?_
          exact wp_ireturn dX10_untell_49 rfl ⟨_, rfl, h⟩
        · replace h := h.2.1 q
          subst q
          refine wp_getR (t := 17) dX10_untell_41 lf_X10_185 hC_16 rfl ?_
          refine wp_iconst (v := nI 0) dX10_untell_44 rfl ?_
          refine wp_put dX10_untell_45 lp_X10_167 hC_17 rfl ⟨⟨rfl, rfl⟩, ?_⟩
          refine wp_nm (fun σ25 e26 => ?_)
          replace h := h σ25 e26
          refine wp_iload_n (i := 2) dX10_untell_48 rfl rfl ?_
          exact wp_ireturn dX10_untell_49 rfl ⟨_, rfl, h⟩
      · replace h := h.2 q
        refine wp_iconst (v := nI 1) dX10_untell_27 rfl ?_
        refine wp_goto (tgt := 32) dX10_untell_28 (by decide) ?_
        refine wp_istore_n (i := 2) (Lo' := [some (.ref 0), some (.int x1), some (.int (nI 1))]) dX10_untell_32 rfl (by decide) rfl rfl ?_
        refine wp_aload_n (i := 0) dX10_untell_33 rfl rfl ?_
        refine wp_getR (t := 1) dX10_untell_34 lf_X10_10 hC_0 rfl ?_
        refine wp_iload_n (i := 1) dX10_untell_37 rfl rfl ?_
        refine wp_callVJ (vs := [.int x1]) (rest := []) dX10_untell_38 mV_X9_textOf lm_X10_181 hC_1 rfl rfl rfl (Nat.le_of_ble_eq_true rfl) (CallJ.mono h (fun y28 σ27 h => ?_))
        rcases h.2.2 with q | q
        · replace h := h.1 q
          subst q
          refine wp_getR (t := 13) dX10_untell_41 lf_X10_185 hC_12 rfl ?_
          refine wp_iconst (v := nI 0) dX10_untell_44 rfl ?_
          refine wp_put dX10_untell_45 lp_X10_167 hC_13 rfl ⟨⟨rfl, rfl⟩, ?_⟩
          refine wp_nm (fun σ29 e30 => ?_)
          replace h := h σ29 e30
          refine wp_iload_n (i := 2) dX10_untell_48 rfl rfl ?_
          exact wp_ireturn dX10_untell_49 rfl ⟨_, rfl, h⟩
        · replace h := h.2.1 q
          subst q
          refine wp_getR (t := 17) dX10_untell_41 lf_X10_185 hC_16 rfl ?_
          refine wp_iconst (v := nI 0) dX10_untell_44 rfl ?_
          refine wp_put dX10_untell_45 lp_X10_167 hC_17 rfl ⟨⟨rfl, rfl⟩, ?_⟩
          refine wp_nm (fun σ31 e32 => ?_)
          replace h := h σ31 e32
          refine wp_iload_n (i := 2) dX10_untell_48 rfl rfl ?_
          exact wp_ireturn dX10_untell_49 rfl ⟨_, rfl, h⟩
  · replace h := h.2 q
    refine wp_aload_n (i := 0) dX10_untell_7 rfl rfl ?_
    refine wp_iconst (v := nI 1) dX10_untell_8 rfl ?_
    refine wp_callVI (vs := [.int (nI 1)]) (rest := []) dX10_untell_9 mV_X10_error lm_X10_62 hC_0 rfl rfl rfl (Nat.le_of_ble_eq_true rfl) (CallI.mono h (fun y34 σ33 h => ?_))
    exact wp_ireturn dX10_untell_12 rfl ⟨_, rfl, h⟩
set_option maxRecDepth 20000 in
set_option maxHeartbeats 2000000 in
theorem vc_SD_law {E : KE} {d : Nat} {x1 : Int32} {x2 : Int32} {x3 : Int32} {x4 : Int32} {σ : Sg} {K : Int32 → Sg → Prop} (h : CallI E shC d mX10_isUse [.int x1] σ (fun y2 σ1 => (¬ y2 = 0 → CallI E shC d mX9_useGives [.ref 1, .int x1, .int x2, .int x3, .int x4] σ1 (fun y4 σ3 => K y4 σ3)) ∧ (y2 = 0 → CallI E shC d mX10_error [.ref 0, .int (nI 1)] σ1 (fun y6 σ5 => K y6 σ5)))) : CallI E shC (d + 1) mX10_law [.ref 0, .int x1, .int x2, .int x3, .int x4] σ K := by
  refine wp_enter (Lo := [some (.ref 0), some (.int x1), some (.int x2), some (.int x3), some (.int x4)]) mp_X10_law (Nat.le_of_ble_eq_true rfl) rfl ?_
  refine wp_iload_n (i := 1) dX10_law_0 rfl rfl ?_
  refine wp_callSI (vs := [.int x1]) (rest := []) dX10_law_1 mS_X10_isUse lm_X10_174 rfl rfl (Nat.le_of_ble_eq_true rfl) (CallI.mono h (fun y2 σ1 h => ?_))
  refine wp_ifne (tgt := 13) dX10_law_4 (by decide) ⟨fun q => ?_, fun q => ?_⟩
  · replace h := h.1 q
    refine wp_aload_n (i := 0) dX10_law_13 rfl rfl ?_
    refine wp_getR (t := 1) dX10_law_14 lf_X10_10 hC_0 rfl ?_
    refine wp_iload_n (i := 1) dX10_law_17 rfl rfl ?_
    refine wp_iload_n (i := 2) dX10_law_18 rfl rfl ?_
    refine wp_iload_n (i := 3) dX10_law_19 rfl rfl ?_
    refine wp_iload (i := 4) dX10_law_20 rfl ?_
    refine wp_callVI (vs := [.int x1, .int x2, .int x3, .int x4]) (rest := []) dX10_law_22 mV_X9_useGives lm_X10_199 hC_1 rfl rfl rfl (Nat.le_of_ble_eq_true rfl) (CallI.mono h (fun y4 σ3 h => ?_))
    exact wp_ireturn dX10_law_25 rfl ⟨_, rfl, h⟩
  · replace h := h.2 q
    refine wp_aload_n (i := 0) dX10_law_7 rfl rfl ?_
    refine wp_iconst (v := nI 1) dX10_law_8 rfl ?_
    refine wp_callVI (vs := [.int (nI 1)]) (rest := []) dX10_law_9 mV_X10_error lm_X10_62 hC_0 rfl rfl rfl (Nat.le_of_ble_eq_true rfl) (CallI.mono h (fun y6 σ5 h => ?_))
    exact wp_ireturn dX10_law_12 rfl ⟨_, rfl, h⟩
set_option maxRecDepth 20000 in
set_option maxHeartbeats 2000000 in
theorem vb_World_settlePromises_2 {E : KE} {d : Nat} {x1 : Int32} {x2 : Int32} {σ : Sg} {K : Sg → Prop} (h : ((σ 8 3) ≤ x2 → K σ) ∧ (¬ (σ 8 3) ≤ x2 → vp_in x2 8 ∧ (((σ 11 x2.toNatClampNeg) = x1 → CallI E shC d mX2_isKept [.ref 8, .int x2, .ref 2] σ (fun y2 σ1 => (y2 = 0 → CallI E shC d mX9_oneMore [.int (σ1 1 9)] σ1 (fun y4 σ3 => ∀ σ5, σ5 = k_put σ3 1 (upd (σ3 1) 9 y4) → WP E shC mX9_settlePromises (d + 1) 2 [some (.ref 1), some (.int x1), some (.int (x2 + nI 1))] [] σ5 (k_qn K))) ∧ (¬ y2 = 0 → CallI E shC d mX9_oneMore [.int (σ1 1 8)] σ1 (fun y8 σ7 => ∀ σ9, σ9 = k_put σ7 1 (upd (σ7 1) 8 y8) → WP E shC mX9_settlePromises (d + 1) 2 [some (.ref 1), some (.int x1), some (.int (x2 + nI 1))] [] σ9 (k_qn K))))) ∧ (¬ (σ 11 x2.toNatClampNeg) = x1 → WP E shC mX9_settlePromises (d + 1) 2 [some (.ref 1), some (.int x1), some (.int (x2 + nI 1))] [] σ (k_qn K))))) : WP E shC mX9_settlePromises (d + 1) 2 [some (.ref 1), some (.int x1), some (.int x2)] [] σ (k_qn K) := by
  refine wp_iload_n (i := 2) dX9_settlePromises_2 rfl rfl ?_
  refine wp_aload_n (i := 0) dX9_settlePromises_3 rfl rfl ?_
  refine wp_getR (t := 8) dX9_settlePromises_4 lf_X9_21 hC_1 rfl ?_
  refine wp_getI dX9_settlePromises_7 lf_X9_150 hC_8 rfl ?_
  refine wp_icmpge (tgt := 75) dX9_settlePromises_10 (by decide) ⟨fun q => ?_, fun q => ?_⟩
  · replace h := h.1 q
    exact wp_return dX9_settlePromises_75 rfl ⟨rfl, h⟩
  · replace h := h.2 q
    refine wp_aload_n (i := 0) dX9_settlePromises_13 rfl rfl ?_
    refine wp_getR (t := 8) dX9_settlePromises_14 lf_X9_21 hC_1 rfl ?_
    refine wp_getR (t := 11) dX9_settlePromises_17 lf_X9_151 hC_8 rfl ?_
    refine wp_iload_n (i := 2) dX9_settlePromises_20 rfl rfl ?_
    refine wp_iald dX9_settlePromises_21 hC_11 ⟨h.1, ?_⟩
    replace h := h.2
    refine wp_iload_n (i := 1) dX9_settlePromises_22 rfl rfl ?_
    refine wp_icmpeq (tgt := 29) dX9_settlePromises_23 (by decide) ⟨fun q => ?_, fun q => ?_⟩
    · replace h := h.1 q
      refine wp_aload_n (i := 0) dX9_settlePromises_29 rfl rfl ?_
      refine wp_getR (t := 8) dX9_settlePromises_30 lf_X9_21 hC_1 rfl ?_
      refine wp_iload_n (i := 2) dX9_settlePromises_33 rfl rfl ?_
      refine wp_aload_n (i := 0) dX9_settlePromises_34 rfl rfl ?_
      refine wp_getR (t := 2) dX9_settlePromises_35 lf_X9_12 hC_1 rfl ?_
      refine wp_callVI (vs := [.int x2, .ref 2]) (rest := []) dX9_settlePromises_38 mV_X2_isKept lm_X9_154 hC_8 rfl rfl rfl (Nat.le_of_ble_eq_true rfl) (CallI.mono h (fun y2 σ1 h => ?_))
      refine wp_ifeq (tgt := 58) dX9_settlePromises_41 (by decide) ⟨fun q => ?_, fun q => ?_⟩
      · replace h := h.1 q
        refine wp_aload_n (i := 0) dX9_settlePromises_58 rfl rfl ?_
        refine wp_aload_n (i := 0) dX9_settlePromises_59 rfl rfl ?_
        refine wp_getI dX9_settlePromises_60 lf_X9_57 hC_1 rfl ?_
        refine wp_callSI (vs := [.int (σ1 1 9)]) (rest := [.ref 1]) dX9_settlePromises_63 mS_X9_oneMore lm_X9_138 rfl rfl (Nat.le_of_ble_eq_true rfl) (CallI.mono h (fun y4 σ3 h => ?_))
        refine wp_put dX9_settlePromises_66 lp_X9_57 hC_1 rfl ⟨⟨rfl, rfl⟩, ?_⟩
        refine wp_nm (fun σ5 e6 => ?_)
        replace h := h σ5 e6
        refine wp_iinc (i := 2) (v := x2 + nI 1) (Lo' := [some (.ref 1), some (.int x1), some (.int (x2 + nI 1))]) dX9_settlePromises_69 rfl (by rfl) (by decide) rfl rfl ?_
        refine wp_goto (tgt := 2) dX9_settlePromises_72 (by decide) ?_
        exact wp_mask [true, true, true] h
      · replace h := h.2 q
        refine wp_aload_n (i := 0) dX9_settlePromises_44 rfl rfl ?_
        refine wp_aload_n (i := 0) dX9_settlePromises_45 rfl rfl ?_
        refine wp_getI dX9_settlePromises_46 lf_X9_54 hC_1 rfl ?_
        refine wp_callSI (vs := [.int (σ1 1 8)]) (rest := [.ref 1]) dX9_settlePromises_49 mS_X9_oneMore lm_X9_138 rfl rfl (Nat.le_of_ble_eq_true rfl) (CallI.mono h (fun y8 σ7 h => ?_))
        refine wp_put dX9_settlePromises_52 lp_X9_54 hC_1 rfl ⟨⟨rfl, rfl⟩, ?_⟩
        refine wp_nm (fun σ9 e10 => ?_)
        replace h := h σ9 e10
        refine wp_goto (tgt := 69) dX9_settlePromises_55 (by decide) ?_
        refine wp_iinc (i := 2) (v := x2 + nI 1) (Lo' := [some (.ref 1), some (.int x1), some (.int (x2 + nI 1))]) dX9_settlePromises_69 rfl (by rfl) (by decide) rfl rfl ?_
        refine wp_goto (tgt := 2) dX9_settlePromises_72 (by decide) ?_
        exact wp_mask [true, true, true] h
    · replace h := h.2 q
      refine wp_goto (tgt := 69) dX9_settlePromises_26 (by decide) ?_
      refine wp_iinc (i := 2) (v := x2 + nI 1) (Lo' := [some (.ref 1), some (.int x1), some (.int (x2 + nI 1))]) dX9_settlePromises_69 rfl (by rfl) (by decide) rfl rfl ?_
      refine wp_goto (tgt := 2) dX9_settlePromises_72 (by decide) ?_
      exact wp_mask [true, true, true] h
set_option maxRecDepth 20000 in
set_option maxHeartbeats 2000000 in
theorem vc_World_settlePromises {E : KE} {d : Nat} {x1 : Int32} {σ : Sg} {K : Sg → Prop} (h : WP E shC mX9_settlePromises (d + 1) 2 [some (.ref 1), some (.int x1), some (.int (nI 0))] [] σ (k_qn K)) : CallN E shC (d + 1) mX9_settlePromises [.ref 1, .int x1] σ K := by
  refine wp_enter (Lo := [some (.ref 1), some (.int x1), none]) mp_X9_settlePromises (Nat.le_of_ble_eq_true rfl) rfl ?_
  refine wp_iconst (v := nI 0) dX9_settlePromises_0 rfl ?_
  refine wp_istore_n (i := 2) (Lo' := [some (.ref 1), some (.int x1), some (.int (nI 0))]) dX9_settlePromises_1 rfl (by decide) rfl rfl ?_
  exact wp_mask [true, true, true] h
set_option maxRecDepth 20000 in
set_option maxHeartbeats 2000000 in
theorem vc_World_letOneLive {E : KE} {d : Nat} {x1 : Int32} {x2 : Int32} {x3 : Int32} {σ : Sg} {K : Sg → Prop} (h : vp_in x1 6 ∧ (vp_in x1 6 ∧ (CallI E shC d mX9_useGives [.ref 1, .int (nI 1), .int (σ 5 x1.toNatClampNeg), .int (σ 1 6), .int (σ 6 x1.toNatClampNeg)] σ (fun y2 σ1 => CallI E shC d mX9_older [.int (σ 5 x1.toNatClampNeg), .int x3] σ1 (fun y4 σ3 => vp_in x1 6 ∧ (∀ σ5, σ5 = k_put σ3 5 (upd (σ3 5) x1.toNatClampNeg y4) → CallI E shC d mX9_poorer [.int (σ 6 x1.toNatClampNeg), .int y2] σ5 (fun y8 σ7 => vp_in x1 6 ∧ (∀ σ9, σ9 = k_put σ7 6 (upd (σ7 6) x1.toNatClampNeg y8) → CallI E shC d mX1_timesOf [.ref 2, .int x1, .int x2] σ9 (fun y12 σ11 => (y12 ≤ (nI 1) → K σ11) ∧ (¬ y12 ≤ (nI 1) → CallI E shC d mX9_oneMore [.int (σ11 1 7)] σ11 (fun y14 σ13 => ∀ σ15, σ15 = k_put σ13 1 (upd (σ13 1) 7 y14) → K σ15))))))))))) : CallN E shC (d + 1) mX9_letOneLive [.ref 1, .int x1, .int x2, .int x3] σ K := by
  refine wp_enter (Lo := [some (.ref 1), some (.int x1), some (.int x2), some (.int x3), none, none, none]) mp_X9_letOneLive (Nat.le_of_ble_eq_true rfl) rfl ?_
  refine wp_aload_n (i := 0) dX9_letOneLive_0 rfl rfl ?_
  refine wp_getR (t := 2) dX9_letOneLive_1 lf_X9_12 hC_1 rfl ?_
  refine wp_getR (t := 5) dX9_letOneLive_4 lf_X9_141 hC_2 rfl ?_
  refine wp_iload_n (i := 1) dX9_letOneLive_7 rfl rfl ?_
  refine wp_iald dX9_letOneLive_8 hC_5 ⟨h.1, ?_⟩
  replace h := h.2
  refine wp_istore (i := 4) (Lo' := [some (.ref 1), some (.int x1), some (.int x2), some (.int x3), some (.int (σ 5 x1.toNatClampNeg)), none, none]) dX9_letOneLive_9 (by decide) rfl rfl ?_
  refine wp_aload_n (i := 0) dX9_letOneLive_11 rfl rfl ?_
  refine wp_getR (t := 2) dX9_letOneLive_12 lf_X9_12 hC_1 rfl ?_
  refine wp_getR (t := 6) dX9_letOneLive_15 lf_X9_103 hC_2 rfl ?_
  refine wp_iload_n (i := 1) dX9_letOneLive_18 rfl rfl ?_
  refine wp_iald dX9_letOneLive_19 hC_6 ⟨h.1, ?_⟩
  replace h := h.2
  refine wp_istore (i := 5) (Lo' := [some (.ref 1), some (.int x1), some (.int x2), some (.int x3), some (.int (σ 5 x1.toNatClampNeg)), some (.int (σ 6 x1.toNatClampNeg)), none]) dX9_letOneLive_20 (by decide) rfl rfl ?_
  refine wp_aload_n (i := 0) dX9_letOneLive_22 rfl rfl ?_
  refine wp_iconst (v := nI 1) dX9_letOneLive_23 rfl ?_
  refine wp_iload (i := 4) dX9_letOneLive_24 rfl ?_
  refine wp_aload_n (i := 0) dX9_letOneLive_26 rfl rfl ?_
  refine wp_getI dX9_letOneLive_27 lf_X9_47 hC_1 rfl ?_
  refine wp_iload (i := 5) dX9_letOneLive_30 rfl ?_
  refine wp_callVI (vs := [.int (nI 1), .int (σ 5 x1.toNatClampNeg), .int (σ 1 6), .int (σ 6 x1.toNatClampNeg)]) (rest := []) dX9_letOneLive_32 mV_X9_useGives lm_X9_89 hC_1 rfl rfl rfl (Nat.le_of_ble_eq_true rfl) (CallI.mono h (fun y2 σ1 h => ?_))
  refine wp_istore (i := 6) (Lo' := [some (.ref 1), some (.int x1), some (.int x2), some (.int x3), some (.int (σ 5 x1.toNatClampNeg)), some (.int (σ 6 x1.toNatClampNeg)), some (.int y2)]) dX9_letOneLive_35 (by decide) rfl rfl ?_
  refine wp_aload_n (i := 0) dX9_letOneLive_37 rfl rfl ?_
  refine wp_getR (t := 2) dX9_letOneLive_38 lf_X9_12 hC_1 rfl ?_
  refine wp_getR (t := 5) dX9_letOneLive_41 lf_X9_141 hC_2 rfl ?_
  refine wp_iload_n (i := 1) dX9_letOneLive_44 rfl rfl ?_
  refine wp_iload (i := 4) dX9_letOneLive_45 rfl ?_
  refine wp_iload_n (i := 3) dX9_letOneLive_47 rfl rfl ?_
  refine wp_callSI (vs := [.int (σ 5 x1.toNatClampNeg), .int x3]) (rest := [.int x1, .ref 5]) dX9_letOneLive_48 mS_X9_older lm_X9_144 rfl rfl (Nat.le_of_ble_eq_true rfl) (CallI.mono h (fun y4 σ3 h => ?_))
  refine wp_iast dX9_letOneLive_51 hC_5 ⟨h.1, ?_⟩
  refine wp_nm (fun σ5 e6 => ?_)
  replace h := h.2 σ5 e6
  refine wp_aload_n (i := 0) dX9_letOneLive_52 rfl rfl ?_
  refine wp_getR (t := 2) dX9_letOneLive_53 lf_X9_12 hC_1 rfl ?_
  refine wp_getR (t := 6) dX9_letOneLive_56 lf_X9_103 hC_2 rfl ?_
  refine wp_iload_n (i := 1) dX9_letOneLive_59 rfl rfl ?_
  refine wp_iload (i := 5) dX9_letOneLive_60 rfl ?_
  refine wp_iload (i := 6) dX9_letOneLive_62 rfl ?_
  refine wp_callSI (vs := [.int (σ 6 x1.toNatClampNeg), .int y2]) (rest := [.int x1, .ref 6]) dX9_letOneLive_64 mS_X9_poorer lm_X9_147 rfl rfl (Nat.le_of_ble_eq_true rfl) (CallI.mono h (fun y8 σ7 h => ?_))
  refine wp_iast dX9_letOneLive_67 hC_6 ⟨h.1, ?_⟩
  refine wp_nm (fun σ9 e10 => ?_)
  replace h := h.2 σ9 e10
  refine wp_aload_n (i := 0) dX9_letOneLive_68 rfl rfl ?_
  refine wp_getR (t := 2) dX9_letOneLive_69 lf_X9_12 hC_1 rfl ?_
  refine wp_iload_n (i := 1) dX9_letOneLive_72 rfl rfl ?_
  refine wp_iload_n (i := 2) dX9_letOneLive_73 rfl rfl ?_
  refine wp_callVI (vs := [.int x1, .int x2]) (rest := []) dX9_letOneLive_74 mV_X1_timesOf lm_X9_86 hC_2 rfl rfl rfl (Nat.le_of_ble_eq_true rfl) (CallI.mono h (fun y12 σ11 h => ?_))
  refine wp_iconst (v := nI 1) dX9_letOneLive_77 rfl ?_
  refine wp_icmple (tgt := 92) dX9_letOneLive_78 (by decide) ⟨fun q => ?_, fun q => ?_⟩
  · replace h := h.1 q
    exact wp_return dX9_letOneLive_92 rfl ⟨rfl, h⟩
  · replace h := h.2 q
    refine wp_aload_n (i := 0) dX9_letOneLive_81 rfl rfl ?_
    refine wp_aload_n (i := 0) dX9_letOneLive_82 rfl rfl ?_
    refine wp_getI dX9_letOneLive_83 lf_X9_51 hC_1 rfl ?_
    refine wp_callSI (vs := [.int (σ11 1 7)]) (rest := [.ref 1]) dX9_letOneLive_86 mS_X9_oneMore lm_X9_138 rfl rfl (Nat.le_of_ble_eq_true rfl) (CallI.mono h (fun y14 σ13 h => ?_))
    refine wp_put dX9_letOneLive_89 lp_X9_51 hC_1 rfl ⟨⟨rfl, rfl⟩, ?_⟩
    refine wp_nm (fun σ15 e16 => ?_)
    replace h := h σ15 e16
    exact wp_return dX9_letOneLive_92 rfl ⟨rfl, h⟩
set_option maxRecDepth 20000 in
set_option maxHeartbeats 2000000 in
theorem vb_World_letDayGo_10 {E : KE} {d : Nat} {x1 : Int32} {x2 : Int32} {x3 : Int32} {σ : Sg} {K : Int32 → Sg → Prop} (h : ((σ 2 5) ≤ x3 → CallN E shC d mX9_settlePromises [.ref 1, .int x1] σ (fun σ1 => (¬ x2 = 0 → ∀ σ2, σ2 = k_put σ1 1 (upd (σ1 1) 6 ((σ1 1 6) + (nI 1))) → K x2 σ2) ∧ (x2 = 0 → CallI E shC d mX9_oneMore [.int (σ1 1 10)] σ1 (fun y5 σ4 => ∀ σ6, σ6 = k_put σ4 1 (upd (σ4 1) 10 y5) → ∀ σ8, σ8 = k_put σ6 1 (upd (σ6 1) 6 ((σ6 1 6) + (nI 1))) → K x2 σ8)))) ∧ (¬ (σ 2 5) ≤ x3 → CallI E shC d mX1_livesOf [.ref 2, .int x3, .int x1] σ (fun y11 σ10 => (y11 ≤ 0 → WP E shC mX9_letDayGo (d + 1) 10 [some (.ref 1), some (.int x1), some (.int x2), some (.int (x3 + nI 1)), none] [] σ10 (k_qi K)) ∧ (¬ y11 ≤ 0 → CallN E shC d mX9_letOneLive [.ref 1, .int x3, .int x1, .int y11] σ10 (fun σ12 => WP E shC mX9_letDayGo (d + 1) 10 [some (.ref 1), some (.int x1), some (.int (x2 + nI 1)), some (.int (x3 + nI 1)), none] [] σ12 (k_qi K)))))) : WP E shC mX9_letDayGo (d + 1) 10 [some (.ref 1), some (.int x1), some (.int x2), some (.int x3), none] [] σ (k_qi K) := by
  refine wp_iload_n (i := 3) dX9_letDayGo_10 rfl rfl ?_
  refine wp_aload_n (i := 0) dX9_letDayGo_11 rfl rfl ?_
  refine wp_getR (t := 2) dX9_letDayGo_12 lf_X9_12 hC_1 rfl ?_
  refine wp_getI dX9_letDayGo_15 lf_X9_111 hC_2 rfl ?_
  refine wp_icmpge (tgt := 54) dX9_letDayGo_18 (by decide) ⟨fun q => ?_, fun q => ?_⟩
  · replace h := h.1 q
    refine wp_aload_n (i := 0) dX9_letDayGo_54 rfl rfl ?_
    refine wp_iload_n (i := 1) dX9_letDayGo_55 rfl rfl ?_
    refine wp_callVN (vs := [.int x1]) (rest := []) dX9_letDayGo_56 mV_X9_settlePromises lm_X9_135 hC_1 rfl rfl rfl (Nat.le_of_ble_eq_true rfl) (CallN.mono h (fun σ1 h => ?_))
    refine wp_iload_n (i := 2) dX9_letDayGo_59 rfl rfl ?_
    refine wp_ifne (tgt := 74) dX9_letDayGo_60 (by decide) ⟨fun q => ?_, fun q => ?_⟩
    · replace h := h.1 q
      refine wp_aload_n (i := 0) dX9_letDayGo_74 rfl rfl ?_
      refine wp_dup dX9_letDayGo_75 rfl ?_
      refine wp_getI dX9_letDayGo_76 lf_X9_47 hC_1 rfl ?_
      refine wp_iconst (v := nI 1) dX9_letDayGo_79 rfl ?_
      refine wp_iadd dX9_letDayGo_80 ?_
      refine wp_put dX9_letDayGo_81 lp_X9_47 hC_1 rfl ⟨⟨rfl, rfl⟩, ?_⟩
      refine wp_nm (fun σ2 e3 => ?_)
      replace h := h σ2 e3
      refine wp_iload_n (i := 2) dX9_letDayGo_84 rfl rfl ?_
      exact wp_ireturn dX9_letDayGo_85 rfl ⟨_, rfl, h⟩
    · replace h := h.2 q
      refine wp_aload_n (i := 0) dX9_letDayGo_63 rfl rfl ?_
      refine wp_aload_n (i := 0) dX9_letDayGo_64 rfl rfl ?_
      refine wp_getI dX9_letDayGo_65 lf_X9_60 hC_1 rfl ?_
      refine wp_callSI (vs := [.int (σ1 1 10)]) (rest := [.ref 1]) dX9_letDayGo_68 mS_X9_oneMore lm_X9_138 rfl rfl (Nat.le_of_ble_eq_true rfl) (CallI.mono h (fun y5 σ4 h => ?_))
      refine wp_put dX9_letDayGo_71 lp_X9_60 hC_1 rfl ⟨⟨rfl, rfl⟩, ?_⟩
      refine wp_nm (fun σ6 e7 => ?_)
      replace h := h σ6 e7
      refine wp_aload_n (i := 0) dX9_letDayGo_74 rfl rfl ?_
      refine wp_dup dX9_letDayGo_75 rfl ?_
      refine wp_getI dX9_letDayGo_76 lf_X9_47 hC_1 rfl ?_
      refine wp_iconst (v := nI 1) dX9_letDayGo_79 rfl ?_
      refine wp_iadd dX9_letDayGo_80 ?_
      refine wp_put dX9_letDayGo_81 lp_X9_47 hC_1 rfl ⟨⟨rfl, rfl⟩, ?_⟩
      refine wp_nm (fun σ8 e9 => ?_)
      replace h := h σ8 e9
      refine wp_iload_n (i := 2) dX9_letDayGo_84 rfl rfl ?_
      exact wp_ireturn dX9_letDayGo_85 rfl ⟨_, rfl, h⟩
  · replace h := h.2 q
    refine wp_aload_n (i := 0) dX9_letDayGo_21 rfl rfl ?_
    refine wp_getR (t := 2) dX9_letDayGo_22 lf_X9_12 hC_1 rfl ?_
    refine wp_iload_n (i := 3) dX9_letDayGo_25 rfl rfl ?_
    refine wp_iload_n (i := 1) dX9_letDayGo_26 rfl rfl ?_
    refine wp_callVI (vs := [.int x3, .int x1]) (rest := []) dX9_letDayGo_27 mV_X1_livesOf lm_X9_129 hC_2 rfl rfl rfl (Nat.le_of_ble_eq_true rfl) (CallI.mono h (fun y11 σ10 h => ?_))
    refine wp_istore (i := 4) (Lo' := [some (.ref 1), some (.int x1), some (.int x2), some (.int x3), some (.int y11)]) dX9_letDayGo_30 (by decide) rfl rfl ?_
    refine wp_iload (i := 4) dX9_letDayGo_32 rfl ?_
    refine wp_ifle (tgt := 48) dX9_letDayGo_34 (by decide) ⟨fun q => ?_, fun q => ?_⟩
    · replace h := h.1 q
      refine wp_iinc (i := 3) (v := x3 + nI 1) (Lo' := [some (.ref 1), some (.int x1), some (.int x2), some (.int (x3 + nI 1)), some (.int y11)]) dX9_letDayGo_48 rfl (by rfl) (by decide) rfl rfl ?_
      refine wp_goto (tgt := 10) dX9_letDayGo_51 (by decide) ?_
      exact wp_mask [true, true, true, true, false] h
    · replace h := h.2 q
      refine wp_iinc (i := 2) (v := x2 + nI 1) (Lo' := [some (.ref 1), some (.int x1), some (.int (x2 + nI 1)), some (.int x3), some (.int y11)]) dX9_letDayGo_37 rfl (by rfl) (by decide) rfl rfl ?_
      refine wp_aload_n (i := 0) dX9_letDayGo_40 rfl rfl ?_
      refine wp_iload_n (i := 3) dX9_letDayGo_41 rfl rfl ?_
      refine wp_iload_n (i := 1) dX9_letDayGo_42 rfl rfl ?_
      refine wp_iload (i := 4) dX9_letDayGo_43 rfl ?_
      refine wp_callVN (vs := [.int x3, .int x1, .int y11]) (rest := []) dX9_letDayGo_45 mV_X9_letOneLive lm_X9_132 hC_1 rfl rfl rfl (Nat.le_of_ble_eq_true rfl) (CallN.mono h (fun σ12 h => ?_))
      refine wp_iinc (i := 3) (v := x3 + nI 1) (Lo' := [some (.ref 1), some (.int x1), some (.int (x2 + nI 1)), some (.int (x3 + nI 1)), some (.int y11)]) dX9_letDayGo_48 rfl (by rfl) (by decide) rfl rfl ?_
      refine wp_goto (tgt := 10) dX9_letDayGo_51 (by decide) ?_
      exact wp_mask [true, true, true, true, false] h
set_option maxRecDepth 20000 in
set_option maxHeartbeats 2000000 in
theorem vc_World_letDayGo {E : KE} {d : Nat} {σ : Sg} {K : Int32 → Sg → Prop} (h : CallI E shC d mX9_dayIn [.ref 1, .int (nI 0)] σ (fun y2 σ1 => WP E shC mX9_letDayGo (d + 1) 10 [some (.ref 1), some (.int y2), some (.int (nI 0)), some (.int (nI 0)), none] [] σ1 (k_qi K))) : CallI E shC (d + 1) mX9_letDayGo [.ref 1] σ K := by
  refine wp_enter (Lo := [some (.ref 1), none, none, none, none]) mp_X9_letDayGo (Nat.le_of_ble_eq_true rfl) rfl ?_
  refine wp_aload_n (i := 0) dX9_letDayGo_0 rfl rfl ?_
  refine wp_iconst (v := nI 0) dX9_letDayGo_1 rfl ?_
  refine wp_callVI (vs := [.int (nI 0)]) (rest := []) dX9_letDayGo_2 mV_X9_dayIn lm_X9_125 hC_1 rfl rfl rfl (Nat.le_of_ble_eq_true rfl) (CallI.mono h (fun y2 σ1 h => ?_))
  refine wp_istore_n (i := 1) (Lo' := [some (.ref 1), some (.int y2), none, none, none]) dX9_letDayGo_5 rfl (by decide) rfl rfl ?_
  refine wp_iconst (v := nI 0) dX9_letDayGo_6 rfl ?_
  refine wp_istore_n (i := 2) (Lo' := [some (.ref 1), some (.int y2), some (.int (nI 0)), none, none]) dX9_letDayGo_7 rfl (by decide) rfl rfl ?_
  refine wp_iconst (v := nI 0) dX9_letDayGo_8 rfl ?_
  refine wp_istore_n (i := 3) (Lo' := [some (.ref 1), some (.int y2), some (.int (nI 0)), some (.int (nI 0)), none]) dX9_letDayGo_9 rfl (by decide) rfl rfl ?_
  exact wp_mask [true, true, true, true, false] h
set_option maxRecDepth 20000 in
set_option maxHeartbeats 2000000 in
theorem vb_SD_days_41 {E : KE} {d : Nat} {x1 : Int32} {x2 : Int32} {x3 : Int32} {σ : Sg} {K : Int32 → Sg → Prop} (h : (x1 ≤ x3 → K x2 σ) ∧ (¬ x1 ≤ x3 → CallI E shC d mX9_letDayGo [.ref 1] σ (fun y2 σ1 => WP E shC mX10_days (d + 1) 41 [some (.ref 0), some (.int x1), some (.int (x2 + y2)), some (.int (x3 + nI 1))] [] σ1 (k_qi K)))) : WP E shC mX10_days (d + 1) 41 [some (.ref 0), some (.int x1), some (.int x2), some (.int x3)] [] σ (k_qi K) := by
  refine wp_iload_n (i := 3) dX10_days_41 rfl rfl ?_
  refine wp_iload_n (i := 1) dX10_days_42 rfl rfl ?_
  refine wp_icmpge (tgt := 62) dX10_days_43 (by decide) ⟨fun q => ?_, fun q => ?_⟩
  · replace h := h.1 q
    refine wp_iload_n (i := 2) dX10_days_62 rfl rfl ?_
    exact wp_ireturn dX10_days_63 rfl ⟨_, rfl, h⟩
  · replace h := h.2 q
    refine wp_iload_n (i := 2) dX10_days_46 rfl rfl ?_
    refine wp_aload_n (i := 0) dX10_days_47 rfl rfl ?_
    refine wp_getR (t := 1) dX10_days_48 lf_X10_10 hC_0 rfl ?_
    refine wp_callVI (vs := []) (rest := [.int x2]) dX10_days_51 mV_X9_letDayGo lm_X10_206 hC_1 rfl rfl rfl (Nat.le_of_ble_eq_true rfl) (CallI.mono h (fun y2 σ1 h => ?_))
    refine wp_iadd dX10_days_54 ?_
    refine wp_istore_n (i := 2) (Lo' := [some (.ref 0), some (.int x1), some (.int (x2 + y2)), some (.int x3)]) dX10_days_55 rfl (by decide) rfl rfl ?_
    refine wp_iinc (i := 3) (v := x3 + nI 1) (Lo' := [some (.ref 0), some (.int x1), some (.int (x2 + y2)), some (.int (x3 + nI 1))]) dX10_days_56 rfl (by rfl) (by decide) rfl rfl ?_
    refine wp_goto (tgt := 41) dX10_days_59 (by decide) ?_
    exact wp_mask [true, true, true, true] h
set_option maxRecDepth 20000 in
set_option maxHeartbeats 2000000 in
theorem vc_SD_days {E : KE} {d : Nat} {x1 : Int32} {σ : Sg} {K : Int32 → Sg → Prop} (h : CallI E shC d mX10_isWithin [.int x1, .int (nI 1), .int (nI 60)] σ (fun y2 σ1 => (¬ y2 = 0 → ((σ1 1 6) ≤ ((nI 9999) - x1) → WP E shC mX10_days (d + 1) 41 [some (.ref 0), some (.int x1), some (.int (nI 0)), some (.int (nI 0))] [] σ1 (k_qi K)) ∧ (¬ (σ1 1 6) ≤ ((nI 9999) - x1) → CallI E shC d mX10_error [.ref 0, .int (nI 3)] σ1 (fun y4 σ3 => K y4 σ3))) ∧ (y2 = 0 → CallI E shC d mX10_error [.ref 0, .int (nI 1)] σ1 (fun y6 σ5 => K y6 σ5)))) : CallI E shC (d + 1) mX10_days [.ref 0, .int x1] σ K := by
  refine wp_enter (Lo := [some (.ref 0), some (.int x1), none, none]) mp_X10_days (Nat.le_of_ble_eq_true rfl) rfl ?_
  refine wp_iload_n (i := 1) dX10_days_0 rfl rfl ?_
  refine wp_iconst (v := nI 1) dX10_days_1 rfl ?_
  refine wp_bipush (v := nI 60) dX10_days_2 (by decide) ?_
  refine wp_callSI (vs := [.int x1, .int (nI 1), .int (nI 60)]) (rest := []) dX10_days_4 mS_X10_isWithin lm_X10_81 rfl rfl (Nat.le_of_ble_eq_true rfl) (CallI.mono h (fun y2 σ1 h => ?_))
  refine wp_ifne (tgt := 16) dX10_days_7 (by decide) ⟨fun q => ?_, fun q => ?_⟩
  · replace h := h.1 q
    refine wp_aload_n (i := 0) dX10_days_16 rfl rfl ?_
    refine wp_getR (t := 1) dX10_days_17 lf_X10_10 hC_0 rfl ?_
    refine wp_getI dX10_days_20 lf_X10_203 hC_1 rfl ?_
    refine wp_sipush (v := nI 9999) dX10_days_23 (by decide) ?_
    refine wp_iload_n (i := 1) dX10_days_26 rfl rfl ?_
    refine wp_isub dX10_days_27 ?_
    refine wp_icmple (tgt := 37) dX10_days_28 (by decide) ⟨fun q => ?_, fun q => ?_⟩
    · replace h := h.1 q
      refine wp_iconst (v := nI 0) dX10_days_37 rfl ?_
      refine wp_istore_n (i := 2) (Lo' := [some (.ref 0), some (.int x1), some (.int (nI 0)), none]) dX10_days_38 rfl (by decide) rfl rfl ?_
      refine wp_iconst (v := nI 0) dX10_days_39 rfl ?_
      refine wp_istore_n (i := 3) (Lo' := [some (.ref 0), some (.int x1), some (.int (nI 0)), some (.int (nI 0))]) dX10_days_40 rfl (by decide) rfl rfl ?_
      exact wp_mask [true, true, true, true] h
    · replace h := h.2 q
      refine wp_aload_n (i := 0) dX10_days_31 rfl rfl ?_
      refine wp_iconst (v := nI 3) dX10_days_32 rfl ?_
      refine wp_callVI (vs := [.int (nI 3)]) (rest := []) dX10_days_33 mV_X10_error lm_X10_62 hC_0 rfl rfl rfl (Nat.le_of_ble_eq_true rfl) (CallI.mono h (fun y4 σ3 h => ?_))
      exact wp_ireturn dX10_days_36 rfl ⟨_, rfl, h⟩
  · replace h := h.2 q
    refine wp_aload_n (i := 0) dX10_days_10 rfl rfl ?_
    refine wp_iconst (v := nI 1) dX10_days_11 rfl ?_
    refine wp_callVI (vs := [.int (nI 1)]) (rest := []) dX10_days_12 mV_X10_error lm_X10_62 hC_0 rfl rfl rfl (Nat.le_of_ble_eq_true rfl) (CallI.mono h (fun y6 σ5 h => ?_))
    exact wp_ireturn dX10_days_15 rfl ⟨_, rfl, h⟩
set_option maxRecDepth 20000 in
set_option maxHeartbeats 2000000 in
theorem vc_World_draw {E : KE} {d : Nat} {σ : Sg} {K : Int32 → Sg → Prop} (h : ∀ σ1, σ1 = k_put σ 1 (upd (σ 1) 11 (((σ 1 11) * (nI 1103515245)) + (nI 12345))) → K (((σ1 1 11).toUInt32 >>> ((nI 8).toUInt32 &&& Int32.toUInt32 31)).toInt32) σ1) : CallI E shC d mX9_draw [.ref 1] σ K := by
  refine wp_enter (Lo := [some (.ref 1)]) mp_X9_draw (Nat.le_of_ble_eq_true rfl) rfl ?_
  refine wp_aload_n (i := 0) dX9_draw_0 rfl rfl ?_
  refine wp_aload_n (i := 0) dX9_draw_1 rfl rfl ?_
  refine wp_getI dX9_draw_2 lf_X9_63 hC_1 rfl ?_
  refine wp_ldc lc_X9_124 dX9_draw_5 ?_
  refine wp_imul dX9_draw_7 ?_
  refine wp_sipush (v := nI 12345) dX9_draw_8 (by decide) ?_
  refine wp_iadd dX9_draw_11 ?_
  refine wp_put dX9_draw_12 lp_X9_63 hC_1 rfl ⟨⟨rfl, rfl⟩, ?_⟩
  refine wp_nm (fun σ1 e2 => ?_)
  replace h := h σ1 e2
  refine wp_aload_n (i := 0) dX9_draw_15 rfl rfl ?_
  refine wp_getI dX9_draw_16 lf_X9_63 hC_1 rfl ?_
  refine wp_bipush (v := nI 8) dX9_draw_19 (by decide) ?_
  refine wp_iushr dX9_draw_21 ?_
  exact wp_ireturn dX9_draw_22 rfl ⟨_, rfl, h⟩
set_option maxRecDepth 20000 in
set_option maxHeartbeats 2000000 in
theorem vc_World_saleByDraws {E : KE} {d : Nat} {σ : Sg} {K : Int32 → Sg → Prop} (h : ((nI 2) ≤ (σ 2 5) → CallI E shC d mX9_draw [.ref 1] σ (fun y2 σ1 => ¬ (σ1 2 5) = 0 ∧ (CallI E shC d mX9_draw [.ref 1] σ1 (fun y4 σ3 => ¬ (σ3 2 5) = 0 ∧ (CallI E shC d mX9_draw [.ref 1] σ3 (fun y6 σ5 => ((y2 - y2 / (σ1 2 5) * (σ1 2 5)) = (y4 - y4 / (σ3 2 5) * (σ3 2 5)) → K (nI 0) σ5) ∧ (¬ (y2 - y2 / (σ1 2 5) * (σ1 2 5)) = (y4 - y4 / (σ3 2 5) * (σ3 2 5)) → CallI E shC d mX9_saleCanBe [.ref 1, .int (y2 - y2 / (σ1 2 5) * (σ1 2 5)), .int (y4 - y4 / (σ3 2 5) * (σ3 2 5)), .int (y6 - y6 / (nI 28) * (nI 28))] σ5 (fun y8 σ7 => (¬ y8 = 0 → CallI E shC d mX9_makeSale [.ref 1, .int (y2 - y2 / (σ1 2 5) * (σ1 2 5)), .int (y4 - y4 / (σ3 2 5) * (σ3 2 5)), .int (y6 - y6 / (nI 28) * (nI 28))] σ7 (fun y10 σ9 => K (nI 1) σ9)) ∧ (y8 = 0 → K (nI 0) σ7))))))))) ∧ (¬ (nI 2) ≤ (σ 2 5) → K (nI 0) σ)) : CallI E shC (d + 1) mX9_saleByDraws [.ref 1] σ K := by
  refine wp_enter (Lo := [some (.ref 1), none, none, none]) mp_X9_saleByDraws (Nat.le_of_ble_eq_true rfl) rfl ?_
  refine wp_aload_n (i := 0) dX9_saleByDraws_0 rfl rfl ?_
  refine wp_getR (t := 2) dX9_saleByDraws_1 lf_X9_12 hC_1 rfl ?_
  refine wp_getI dX9_saleByDraws_4 lf_X9_111 hC_2 rfl ?_
  refine wp_iconst (v := nI 2) dX9_saleByDraws_7 rfl ?_
  refine wp_icmpge (tgt := 13) dX9_saleByDraws_8 (by decide) ⟨fun q => ?_, fun q => ?_⟩
  · replace h := h.1 q
    refine wp_aload_n (i := 0) dX9_saleByDraws_13 rfl rfl ?_
    refine wp_callVI (vs := []) (rest := []) dX9_saleByDraws_14 mV_X9_draw lm_X9_114 hC_1 rfl rfl rfl (Nat.le_of_ble_eq_true rfl) (CallI.mono h (fun y2 σ1 h => ?_))
    refine wp_aload_n (i := 0) dX9_saleByDraws_17 rfl rfl ?_
    refine wp_getR (t := 2) dX9_saleByDraws_18 lf_X9_12 hC_1 rfl ?_
    refine wp_getI dX9_saleByDraws_21 lf_X9_111 hC_2 rfl ?_
    refine wp_irem dX9_saleByDraws_24 ⟨h.1, ?_⟩
    replace h := h.2
    refine wp_istore_n (i := 1) (Lo' := [some (.ref 1), some (.int (y2 - y2 / (σ1 2 5) * (σ1 2 5))), none, none]) dX9_saleByDraws_25 rfl (by decide) rfl rfl ?_
    refine wp_aload_n (i := 0) dX9_saleByDraws_26 rfl rfl ?_
    refine wp_callVI (vs := []) (rest := []) dX9_saleByDraws_27 mV_X9_draw lm_X9_114 hC_1 rfl rfl rfl (Nat.le_of_ble_eq_true rfl) (CallI.mono h (fun y4 σ3 h => ?_))
    refine wp_aload_n (i := 0) dX9_saleByDraws_30 rfl rfl ?_
    refine wp_getR (t := 2) dX9_saleByDraws_31 lf_X9_12 hC_1 rfl ?_
    refine wp_getI dX9_saleByDraws_34 lf_X9_111 hC_2 rfl ?_
    refine wp_irem dX9_saleByDraws_37 ⟨h.1, ?_⟩
    replace h := h.2
    refine wp_istore_n (i := 2) (Lo' := [some (.ref 1), some (.int (y2 - y2 / (σ1 2 5) * (σ1 2 5))), some (.int (y4 - y4 / (σ3 2 5) * (σ3 2 5))), none]) dX9_saleByDraws_38 rfl (by decide) rfl rfl ?_
    refine wp_aload_n (i := 0) dX9_saleByDraws_39 rfl rfl ?_
    refine wp_callVI (vs := []) (rest := []) dX9_saleByDraws_40 mV_X9_draw lm_X9_114 hC_1 rfl rfl rfl (Nat.le_of_ble_eq_true rfl) (CallI.mono h (fun y6 σ5 h => ?_))
    refine wp_bipush (v := nI 28) dX9_saleByDraws_43 (by decide) ?_
    refine wp_irem dX9_saleByDraws_45 ⟨by decide, ?_⟩
    refine wp_istore_n (i := 3) (Lo' := [some (.ref 1), some (.int (y2 - y2 / (σ1 2 5) * (σ1 2 5))), some (.int (y4 - y4 / (σ3 2 5) * (σ3 2 5))), some (.int (y6 - y6 / (nI 28) * (nI 28)))]) dX9_saleByDraws_46 rfl (by decide) rfl rfl ?_
    refine wp_iload_n (i := 1) dX9_saleByDraws_47 rfl rfl ?_
    refine wp_iload_n (i := 2) dX9_saleByDraws_48 rfl rfl ?_
    refine wp_icmpeq (tgt := 62) dX9_saleByDraws_49 (by decide) ⟨fun q => ?_, fun q => ?_⟩
    · replace h := h.1 q
      refine wp_iconst (v := nI 0) dX9_saleByDraws_62 rfl ?_
      exact wp_ireturn dX9_saleByDraws_63 rfl ⟨_, rfl, h⟩
    · replace h := h.2 q
      refine wp_aload_n (i := 0) dX9_saleByDraws_52 rfl rfl ?_
      refine wp_iload_n (i := 1) dX9_saleByDraws_53 rfl rfl ?_
      refine wp_iload_n (i := 2) dX9_saleByDraws_54 rfl rfl ?_
      refine wp_iload_n (i := 3) dX9_saleByDraws_55 rfl rfl ?_
      refine wp_callVI (vs := [.int (y2 - y2 / (σ1 2 5) * (σ1 2 5)), .int (y4 - y4 / (σ3 2 5) * (σ3 2 5)), .int (y6 - y6 / (nI 28) * (nI 28))]) (rest := []) dX9_saleByDraws_56 mV_X9_saleCanBe lm_X9_118 hC_1 rfl rfl rfl (Nat.le_of_ble_eq_true rfl) (CallI.mono h (fun y8 σ7 h => ?_))
      refine wp_ifne (tgt := 64) dX9_saleByDraws_59 (by decide) ⟨fun q => ?_, fun q => ?_⟩
      · replace h := h.1 q
        refine wp_aload_n (i := 0) dX9_saleByDraws_64 rfl rfl ?_
        refine wp_iload_n (i := 1) dX9_saleByDraws_65 rfl rfl ?_
        refine wp_iload_n (i := 2) dX9_saleByDraws_66 rfl rfl ?_
        refine wp_iload_n (i := 3) dX9_saleByDraws_67 rfl rfl ?_
        refine wp_callVI (vs := [.int (y2 - y2 / (σ1 2 5) * (σ1 2 5)), .int (y4 - y4 / (σ3 2 5) * (σ3 2 5)), .int (y6 - y6 / (nI 28) * (nI 28))]) (rest := []) dX9_saleByDraws_68 mV_X9_makeSale lm_X9_121 hC_1 rfl rfl rfl (Nat.le_of_ble_eq_true rfl) (CallI.mono h (fun y10 σ9 h => ?_))
        refine wp_pop dX9_saleByDraws_71 rfl ?_
        refine wp_iconst (v := nI 1) dX9_saleByDraws_72 rfl ?_
        exact wp_ireturn dX9_saleByDraws_73 rfl ⟨_, rfl, h⟩
      · replace h := h.2 q
        refine wp_iconst (v := nI 0) dX9_saleByDraws_62 rfl ?_
        exact wp_ireturn dX9_saleByDraws_63 rfl ⟨_, rfl, h⟩
  · replace h := h.2 q
    refine wp_iconst (v := nI 0) dX9_saleByDraws_11 rfl ?_
    exact wp_ireturn dX9_saleByDraws_12 rfl ⟨_, rfl, h⟩
set_option maxRecDepth 20000 in
set_option maxHeartbeats 2000000 in
theorem vb_SD_loose_41 {E : KE} {d : Nat} {x1 : Int32} {x2 : Int32} {x3 : Int32} {σ : Sg} {K : Int32 → Sg → Prop} (h : (x1 ≤ x3 → K x2 σ) ∧ (¬ x1 ≤ x3 → CallI E shC d mX9_saleByDraws [.ref 1] σ (fun y2 σ1 => CallI E shC d mX9_letDayGo [.ref 1] σ1 (fun y4 σ3 => WP E shC mX10_loose (d + 1) 41 [some (.ref 0), some (.int x1), some (.int (x2 + y2)), some (.int (x3 + nI 1))] [] σ3 (k_qi K))))) : WP E shC mX10_loose (d + 1) 41 [some (.ref 0), some (.int x1), some (.int x2), some (.int x3)] [] σ (k_qi K) := by
  refine wp_iload_n (i := 3) dX10_loose_41 rfl rfl ?_
  refine wp_iload_n (i := 1) dX10_loose_42 rfl rfl ?_
  refine wp_icmpge (tgt := 70) dX10_loose_43 (by decide) ⟨fun q => ?_, fun q => ?_⟩
  · replace h := h.1 q
    refine wp_iload_n (i := 2) dX10_loose_70 rfl rfl ?_
    exact wp_ireturn dX10_loose_71 rfl ⟨_, rfl, h⟩
  · replace h := h.2 q
    refine wp_iload_n (i := 2) dX10_loose_46 rfl rfl ?_
    refine wp_aload_n (i := 0) dX10_loose_47 rfl rfl ?_
    refine wp_getR (t := 1) dX10_loose_48 lf_X10_10 hC_0 rfl ?_
    refine wp_callVI (vs := []) (rest := [.int x2]) dX10_loose_51 mV_X9_saleByDraws lm_X10_210 hC_1 rfl rfl rfl (Nat.le_of_ble_eq_true rfl) (CallI.mono h (fun y2 σ1 h => ?_))
    refine wp_iadd dX10_loose_54 ?_
    refine wp_istore_n (i := 2) (Lo' := [some (.ref 0), some (.int x1), some (.int (x2 + y2)), some (.int x3)]) dX10_loose_55 rfl (by decide) rfl rfl ?_
    refine wp_aload_n (i := 0) dX10_loose_56 rfl rfl ?_
    refine wp_getR (t := 1) dX10_loose_57 lf_X10_10 hC_0 rfl ?_
    refine wp_callVI (vs := []) (rest := []) dX10_loose_60 mV_X9_letDayGo lm_X10_206 hC_1 rfl rfl rfl (Nat.le_of_ble_eq_true rfl) (CallI.mono h (fun y4 σ3 h => ?_))
    refine wp_pop dX10_loose_63 rfl ?_
    refine wp_iinc (i := 3) (v := x3 + nI 1) (Lo' := [some (.ref 0), some (.int x1), some (.int (x2 + y2)), some (.int (x3 + nI 1))]) dX10_loose_64 rfl (by rfl) (by decide) rfl rfl ?_
    refine wp_goto (tgt := 41) dX10_loose_67 (by decide) ?_
    exact wp_mask [true, true, true, true] h
set_option maxRecDepth 20000 in
set_option maxHeartbeats 2000000 in
theorem vc_SD_loose {E : KE} {d : Nat} {x1 : Int32} {σ : Sg} {K : Int32 → Sg → Prop} (h : CallI E shC d mX10_isWithin [.int x1, .int (nI 1), .int (nI 40)] σ (fun y2 σ1 => (¬ y2 = 0 → ((σ1 1 6) ≤ ((nI 9999) - x1) → WP E shC mX10_loose (d + 1) 41 [some (.ref 0), some (.int x1), some (.int (nI 0)), some (.int (nI 0))] [] σ1 (k_qi K)) ∧ (¬ (σ1 1 6) ≤ ((nI 9999) - x1) → CallI E shC d mX10_error [.ref 0, .int (nI 3)] σ1 (fun y4 σ3 => K y4 σ3))) ∧ (y2 = 0 → CallI E shC d mX10_error [.ref 0, .int (nI 1)] σ1 (fun y6 σ5 => K y6 σ5)))) : CallI E shC (d + 1) mX10_loose [.ref 0, .int x1] σ K := by
  refine wp_enter (Lo := [some (.ref 0), some (.int x1), none, none]) mp_X10_loose (Nat.le_of_ble_eq_true rfl) rfl ?_
  refine wp_iload_n (i := 1) dX10_loose_0 rfl rfl ?_
  refine wp_iconst (v := nI 1) dX10_loose_1 rfl ?_
  refine wp_bipush (v := nI 40) dX10_loose_2 (by decide) ?_
  refine wp_callSI (vs := [.int x1, .int (nI 1), .int (nI 40)]) (rest := []) dX10_loose_4 mS_X10_isWithin lm_X10_81 rfl rfl (Nat.le_of_ble_eq_true rfl) (CallI.mono h (fun y2 σ1 h => ?_))
  refine wp_ifne (tgt := 16) dX10_loose_7 (by decide) ⟨fun q => ?_, fun q => ?_⟩
  · replace h := h.1 q
    refine wp_aload_n (i := 0) dX10_loose_16 rfl rfl ?_
    refine wp_getR (t := 1) dX10_loose_17 lf_X10_10 hC_0 rfl ?_
    refine wp_getI dX10_loose_20 lf_X10_203 hC_1 rfl ?_
    refine wp_sipush (v := nI 9999) dX10_loose_23 (by decide) ?_
    refine wp_iload_n (i := 1) dX10_loose_26 rfl rfl ?_
    refine wp_isub dX10_loose_27 ?_
    refine wp_icmple (tgt := 37) dX10_loose_28 (by decide) ⟨fun q => ?_, fun q => ?_⟩
    · replace h := h.1 q
      refine wp_iconst (v := nI 0) dX10_loose_37 rfl ?_
      refine wp_istore_n (i := 2) (Lo' := [some (.ref 0), some (.int x1), some (.int (nI 0)), none]) dX10_loose_38 rfl (by decide) rfl rfl ?_
      refine wp_iconst (v := nI 0) dX10_loose_39 rfl ?_
      refine wp_istore_n (i := 3) (Lo' := [some (.ref 0), some (.int x1), some (.int (nI 0)), some (.int (nI 0))]) dX10_loose_40 rfl (by decide) rfl rfl ?_
      exact wp_mask [true, true, true, true] h
    · replace h := h.2 q
      refine wp_aload_n (i := 0) dX10_loose_31 rfl rfl ?_
      refine wp_iconst (v := nI 3) dX10_loose_32 rfl ?_
      refine wp_callVI (vs := [.int (nI 3)]) (rest := []) dX10_loose_33 mV_X10_error lm_X10_62 hC_0 rfl rfl rfl (Nat.le_of_ble_eq_true rfl) (CallI.mono h (fun y4 σ3 h => ?_))
      exact wp_ireturn dX10_loose_36 rfl ⟨_, rfl, h⟩
  · replace h := h.2 q
    refine wp_aload_n (i := 0) dX10_loose_10 rfl rfl ?_
    refine wp_iconst (v := nI 1) dX10_loose_11 rfl ?_
    refine wp_callVI (vs := [.int (nI 1)]) (rest := []) dX10_loose_12 mV_X10_error lm_X10_62 hC_0 rfl rfl rfl (Nat.le_of_ble_eq_true rfl) (CallI.mono h (fun y6 σ5 h => ?_))
    exact wp_ireturn dX10_loose_15 rfl ⟨_, rfl, h⟩
set_option maxRecDepth 20000 in
set_option maxHeartbeats 2000000 in
theorem vc_SD_seed {E : KE} {d : Nat} {x1 : Int32} {σ : Sg} {K : Int32 → Sg → Prop} (h : ∀ σ1, σ1 = k_put σ 1 (upd (σ 1) 11 x1) → K (σ 1 11) σ1) : CallI E shC d mX10_seed [.ref 0, .int x1] σ K := by
  refine wp_enter (Lo := [some (.ref 0), some (.int x1), none]) mp_X10_seed (Nat.le_of_ble_eq_true rfl) rfl ?_
  refine wp_aload_n (i := 0) dX10_seed_0 rfl rfl ?_
  refine wp_getR (t := 1) dX10_seed_1 lf_X10_10 hC_0 rfl ?_
  refine wp_getI dX10_seed_4 lf_X10_213 hC_1 rfl ?_
  refine wp_istore_n (i := 2) (Lo' := [some (.ref 0), some (.int x1), some (.int (σ 1 11))]) dX10_seed_7 rfl (by decide) rfl rfl ?_
  refine wp_aload_n (i := 0) dX10_seed_8 rfl rfl ?_
  refine wp_getR (t := 1) dX10_seed_9 lf_X10_10 hC_0 rfl ?_
  refine wp_iload_n (i := 1) dX10_seed_12 rfl rfl ?_
  refine wp_put dX10_seed_13 lp_X10_213 hC_1 rfl ⟨⟨rfl, rfl⟩, ?_⟩
  refine wp_nm (fun σ1 e2 => ?_)
  replace h := h σ1 e2
  refine wp_iload_n (i := 2) dX10_seed_16 rfl rfl ?_
  exact wp_ireturn dX10_seed_17 rfl ⟨_, rfl, h⟩
set_option maxRecDepth 20000 in
set_option maxHeartbeats 2000000 in
theorem vb_SD_then_70 {E : KE} {d : Nat} {x1 : Int32} {x2 : Int32} {x3 : Int32} {x4 : Int32} {x5 : Int32} {x6 : Int32} {σ : Sg} {K : Int32 → Sg → Prop} (h : (x1 ≤ x6 → (¬ x3 = 0 → K x5 σ) ∧ (x3 = 0 → K x4 σ)) ∧ (¬ x1 ≤ x6 → CallI E shC d mX9_dayIn [.ref 1, .int x6] σ (fun y2 σ1 => CallI E shC d mX1_livesOf [.ref 2, .int x2, .int y2] σ1 (fun y4 σ3 => (y4 ≤ 0 → WP E shC mX10_then (d + 1) 70 [some (.ref 0), some (.int x1), some (.int x2), some (.int x3), some (.int x4), some (.int x5), some (.int (x6 + nI 1)), none, none] [] σ3 (k_qi K)) ∧ (¬ y4 ≤ 0 → CallI E shC d mX9_useGives [.ref 1, .int (nI 1), .int x4, .int ((σ3 1 6) + x6), .int x5] σ3 (fun y6 σ5 => CallI E shC d mX9_older [.int x4, .int y4] σ5 (fun y8 σ7 => CallI E shC d mX9_poorer [.int x5, .int y6] σ7 (fun y10 σ9 => WP E shC mX10_then (d + 1) 70 [some (.ref 0), some (.int x1), some (.int x2), some (.int x3), some (.int y8), some (.int y10), some (.int (x6 + nI 1)), none, none] [] σ9 (k_qi K))))))))) : WP E shC mX10_then (d + 1) 70 [some (.ref 0), some (.int x1), some (.int x2), some (.int x3), some (.int x4), some (.int x5), some (.int x6), none, none] [] σ (k_qi K) := by
  refine wp_iload (i := 6) dX10_then_70 rfl ?_
  refine wp_iload_n (i := 1) dX10_then_72 rfl rfl ?_
  refine wp_icmpge (tgt := 151) dX10_then_73 (by decide) ⟨fun q => ?_, fun q => ?_⟩
  · replace h := h.1 q
    refine wp_iload_n (i := 3) dX10_then_151 rfl rfl ?_
    refine wp_ifne (tgt := 160) dX10_then_152 (by decide) ⟨fun q => ?_, fun q => ?_⟩
    · replace h := h.1 q
      refine wp_iload (i := 5) dX10_then_160 rfl ?_
      exact wp_ireturn dX10_then_162 rfl ⟨_, rfl, h⟩
    · replace h := h.2 q
      refine wp_iload (i := 4) dX10_then_155 rfl ?_
      refine wp_goto (tgt := 162) dX10_then_157 (by decide) ?_
      exact wp_ireturn dX10_then_162 rfl ⟨_, rfl, h⟩
  · replace h := h.2 q
    refine wp_aload_n (i := 0) dX10_then_76 rfl rfl ?_
    refine wp_getR (t := 1) dX10_then_77 lf_X10_10 hC_0 rfl ?_
    refine wp_getR (t := 2) dX10_then_80 lf_X10_66 hC_1 rfl ?_
    refine wp_iload_n (i := 2) dX10_then_83 rfl rfl ?_
    refine wp_aload_n (i := 0) dX10_then_84 rfl rfl ?_
    refine wp_getR (t := 1) dX10_then_85 lf_X10_10 hC_0 rfl ?_
    refine wp_iload (i := 6) dX10_then_88 rfl ?_
    refine wp_callVI (vs := [.int x6]) (rest := [.int x2, .ref 2]) dX10_then_90 mV_X9_dayIn lm_X10_97 hC_1 rfl rfl rfl (Nat.le_of_ble_eq_true rfl) (CallI.mono h (fun y2 σ1 h => ?_))
    refine wp_callVI (vs := [.int x2, .int y2]) (rest := []) dX10_then_93 mV_X1_livesOf lm_X10_100 hC_2 rfl rfl rfl (Nat.le_of_ble_eq_true rfl) (CallI.mono h (fun y4 σ3 h => ?_))
    refine wp_istore (i := 7) (Lo' := [some (.ref 0), some (.int x1), some (.int x2), some (.int x3), some (.int x4), some (.int x5), some (.int x6), some (.int y4), none]) dX10_then_96 (by decide) rfl rfl ?_
    refine wp_iload (i := 7) dX10_then_98 rfl ?_
    refine wp_ifle (tgt := 145) dX10_then_100 (by decide) ⟨fun q => ?_, fun q => ?_⟩
    · replace h := h.1 q
      refine wp_iinc (i := 6) (v := x6 + nI 1) (Lo' := [some (.ref 0), some (.int x1), some (.int x2), some (.int x3), some (.int x4), some (.int x5), some (.int (x6 + nI 1)), some (.int y4), none]) dX10_then_145 rfl (by rfl) (by decide) rfl rfl ?_
      refine wp_goto (tgt := 70) dX10_then_148 (by decide) ?_
      exact wp_mask [true, true, true, true, true, true, true, false, false] h
    · replace h := h.2 q
      refine wp_aload_n (i := 0) dX10_then_103 rfl rfl ?_
      refine wp_getR (t := 1) dX10_then_104 lf_X10_10 hC_0 rfl ?_
      refine wp_iconst (v := nI 1) dX10_then_107 rfl ?_
      refine wp_iload (i := 4) dX10_then_108 rfl ?_
      refine wp_aload_n (i := 0) dX10_then_110 rfl rfl ?_
      refine wp_getR (t := 1) dX10_then_111 lf_X10_10 hC_0 rfl ?_
      refine wp_getI dX10_then_114 lf_X10_203 hC_1 rfl ?_
      refine wp_iload (i := 6) dX10_then_117 rfl ?_
      refine wp_iadd dX10_then_119 ?_
      refine wp_iload (i := 5) dX10_then_120 rfl ?_
      refine wp_callVI (vs := [.int (nI 1), .int x4, .int ((σ3 1 6) + x6), .int x5]) (rest := []) dX10_then_122 mV_X9_useGives lm_X10_199 hC_1 rfl rfl rfl (Nat.le_of_ble_eq_true rfl) (CallI.mono h (fun y6 σ5 h => ?_))
      refine wp_istore (i := 8) (Lo' := [some (.ref 0), some (.int x1), some (.int x2), some (.int x3), some (.int x4), some (.int x5), some (.int x6), some (.int y4), some (.int y6)]) dX10_then_125 (by decide) rfl rfl ?_
      refine wp_iload (i := 4) dX10_then_127 rfl ?_
      refine wp_iload (i := 7) dX10_then_129 rfl ?_
      refine wp_callSI (vs := [.int x4, .int y4]) (rest := []) dX10_then_131 mS_X9_older lm_X10_216 rfl rfl (Nat.le_of_ble_eq_true rfl) (CallI.mono h (fun y8 σ7 h => ?_))
      refine wp_istore (i := 4) (Lo' := [some (.ref 0), some (.int x1), some (.int x2), some (.int x3), some (.int y8), some (.int x5), some (.int x6), some (.int y4), some (.int y6)]) dX10_then_134 (by decide) rfl rfl ?_
      refine wp_iload (i := 5) dX10_then_136 rfl ?_
      refine wp_iload (i := 8) dX10_then_138 rfl ?_
      refine wp_callSI (vs := [.int x5, .int y6]) (rest := []) dX10_then_140 mS_X9_poorer lm_X10_219 rfl rfl (Nat.le_of_ble_eq_true rfl) (CallI.mono h (fun y10 σ9 h => ?_))
      refine wp_istore (i := 5) (Lo' := [some (.ref 0), some (.int x1), some (.int x2), some (.int x3), some (.int y8), some (.int y10), some (.int x6), some (.int y4), some (.int y6)]) dX10_then_143 (by decide) rfl rfl ?_
      refine wp_iinc (i := 6) (v := x6 + nI 1) (Lo' := [some (.ref 0), some (.int x1), some (.int x2), some (.int x3), some (.int y8), some (.int y10), some (.int (x6 + nI 1)), some (.int y4), some (.int y6)]) dX10_then_145 rfl (by rfl) (by decide) rfl rfl ?_
      refine wp_goto (tgt := 70) dX10_then_148 (by decide) ?_
      exact wp_mask [true, true, true, true, true, true, true, false, false] h
set_option maxRecDepth 20000 in
set_option maxHeartbeats 2000000 in
theorem vc_SD_then {E : KE} {d : Nat} {x1 : Int32} {x2 : Int32} {x3 : Int32} {σ : Sg} {K : Int32 → Sg → Prop} (h : CallI E shC d mX10_isWithin [.int x1, .int (nI 0), .int (nI 100)] σ (fun y2 σ1 => (y2 = 0 → CallI E shC d mX10_error [.ref 0, .int (nI 1)] σ1 (fun y4 σ3 => K y4 σ3)) ∧ (¬ y2 = 0 → CallI E shC d mX1_knows [.ref 2, .int x2] σ1 (fun y6 σ5 => (y6 = 0 → CallI E shC d mX10_error [.ref 0, .int (nI 1)] σ5 (fun y8 σ7 => K y8 σ7)) ∧ (¬ y6 = 0 → CallI E shC d mX10_isWithin [.int x3, .int (nI 0), .int (nI 1)] σ5 (fun y10 σ9 => (¬ y10 = 0 → vp_in x2 6 ∧ (vp_in x2 6 ∧ (WP E shC mX10_then (d + 1) 70 [some (.ref 0), some (.int x1), some (.int x2), some (.int x3), some (.int (σ9 5 x2.toNatClampNeg)), some (.int (σ9 6 x2.toNatClampNeg)), some (.int (nI 0)), none, none] [] σ9 (k_qi K)))) ∧ (y10 = 0 → CallI E shC d mX10_error [.ref 0, .int (nI 1)] σ9 (fun y12 σ11 => K y12 σ11)))))))) : CallI E shC (d + 1) mX10_then [.ref 0, .int x1, .int x2, .int x3] σ K := by
  refine wp_enter (Lo := [some (.ref 0), some (.int x1), some (.int x2), some (.int x3), none, none, none, none, none]) mp_X10_then (Nat.le_of_ble_eq_true rfl) rfl ?_
  refine wp_iload_n (i := 1) dX10_then_0 rfl rfl ?_
  refine wp_iconst (v := nI 0) dX10_then_1 rfl ?_
  refine wp_bipush (v := nI 100) dX10_then_2 (by decide) ?_
  refine wp_callSI (vs := [.int x1, .int (nI 0), .int (nI 100)]) (rest := []) dX10_then_4 mS_X10_isWithin lm_X10_81 rfl rfl (Nat.le_of_ble_eq_true rfl) (CallI.mono h (fun y2 σ1 h => ?_))
  refine wp_ifeq (tgt := 33) dX10_then_7 (by decide) ⟨fun q => ?_, fun q => ?_⟩
  · replace h := h.1 q
    refine wp_aload_n (i := 0) dX10_then_33 rfl rfl ?_
    refine wp_iconst (v := nI 1) dX10_then_34 rfl ?_
    refine wp_callVI (vs := [.int (nI 1)]) (rest := []) dX10_then_35 mV_X10_error lm_X10_62 hC_0 rfl rfl rfl (Nat.le_of_ble_eq_true rfl) (CallI.mono h (fun y4 σ3 h => ?_))
    exact wp_ireturn dX10_then_38 rfl ⟨_, rfl, h⟩
  · replace h := h.2 q
    refine wp_aload_n (i := 0) dX10_then_10 rfl rfl ?_
    refine wp_getR (t := 1) dX10_then_11 lf_X10_10 hC_0 rfl ?_
    refine wp_getR (t := 2) dX10_then_14 lf_X10_66 hC_1 rfl ?_
    refine wp_iload_n (i := 2) dX10_then_17 rfl rfl ?_
    refine wp_callVI (vs := [.int x2]) (rest := []) dX10_then_18 mV_X1_knows lm_X10_78 hC_2 rfl rfl rfl (Nat.le_of_ble_eq_true rfl) (CallI.mono h (fun y6 σ5 h => ?_))
    refine wp_ifeq (tgt := 33) dX10_then_21 (by decide) ⟨fun q => ?_, fun q => ?_⟩
    · replace h := h.1 q
      refine wp_aload_n (i := 0) dX10_then_33 rfl rfl ?_
      refine wp_iconst (v := nI 1) dX10_then_34 rfl ?_
      refine wp_callVI (vs := [.int (nI 1)]) (rest := []) dX10_then_35 mV_X10_error lm_X10_62 hC_0 rfl rfl rfl (Nat.le_of_ble_eq_true rfl) (CallI.mono h (fun y8 σ7 h => ?_))
      exact wp_ireturn dX10_then_38 rfl ⟨_, rfl, h⟩
    · replace h := h.2 q
      refine wp_iload_n (i := 3) dX10_then_24 rfl rfl ?_
      refine wp_iconst (v := nI 0) dX10_then_25 rfl ?_
      refine wp_iconst (v := nI 1) dX10_then_26 rfl ?_
      refine wp_callSI (vs := [.int x3, .int (nI 0), .int (nI 1)]) (rest := []) dX10_then_27 mS_X10_isWithin lm_X10_81 rfl rfl (Nat.le_of_ble_eq_true rfl) (CallI.mono h (fun y10 σ9 h => ?_))
      refine wp_ifne (tgt := 39) dX10_then_30 (by decide) ⟨fun q => ?_, fun q => ?_⟩
      · replace h := h.1 q
        refine wp_aload_n (i := 0) dX10_then_39 rfl rfl ?_
        refine wp_getR (t := 1) dX10_then_40 lf_X10_10 hC_0 rfl ?_
        refine wp_getR (t := 2) dX10_then_43 lf_X10_66 hC_1 rfl ?_
        refine wp_getR (t := 5) dX10_then_46 lf_X10_91 hC_2 rfl ?_
        refine wp_iload_n (i := 2) dX10_then_49 rfl rfl ?_
        refine wp_iald dX10_then_50 hC_5 ⟨h.1, ?_⟩
        replace h := h.2
        refine wp_istore (i := 4) (Lo' := [some (.ref 0), some (.int x1), some (.int x2), some (.int x3), some (.int (σ9 5 x2.toNatClampNeg)), none, none, none, none]) dX10_then_51 (by decide) rfl rfl ?_
        refine wp_aload_n (i := 0) dX10_then_53 rfl rfl ?_
        refine wp_getR (t := 1) dX10_then_54 lf_X10_10 hC_0 rfl ?_
        refine wp_getR (t := 2) dX10_then_57 lf_X10_66 hC_1 rfl ?_
        refine wp_getR (t := 6) dX10_then_60 lf_X10_94 hC_2 rfl ?_
        refine wp_iload_n (i := 2) dX10_then_63 rfl rfl ?_
        refine wp_iald dX10_then_64 hC_6 ⟨h.1, ?_⟩
        replace h := h.2
        refine wp_istore (i := 5) (Lo' := [some (.ref 0), some (.int x1), some (.int x2), some (.int x3), some (.int (σ9 5 x2.toNatClampNeg)), some (.int (σ9 6 x2.toNatClampNeg)), none, none, none]) dX10_then_65 (by decide) rfl rfl ?_
        refine wp_iconst (v := nI 0) dX10_then_67 rfl ?_
        refine wp_istore (i := 6) (Lo' := [some (.ref 0), some (.int x1), some (.int x2), some (.int x3), some (.int (σ9 5 x2.toNatClampNeg)), some (.int (σ9 6 x2.toNatClampNeg)), some (.int (nI 0)), none, none]) dX10_then_68 (by decide) rfl rfl ?_
        exact wp_mask [true, true, true, true, true, true, true, false, false] h
      · replace h := h.2 q
        refine wp_aload_n (i := 0) dX10_then_33 rfl rfl ?_
        refine wp_iconst (v := nI 1) dX10_then_34 rfl ?_
        refine wp_callVI (vs := [.int (nI 1)]) (rest := []) dX10_then_35 mV_X10_error lm_X10_62 hC_0 rfl rfl rfl (Nat.le_of_ble_eq_true rfl) (CallI.mono h (fun y12 σ11 h => ?_))
        exact wp_ireturn dX10_then_38 rfl ⟨_, rfl, h⟩
set_option maxRecDepth 20000 in
set_option maxHeartbeats 2000000 in
theorem vb_People_howManyUp_4 {E : KE} {d : Nat} {x1 : Int32} {x2 : Int32} {x3 : Int32} {σ : Sg} {K : Int32 → Sg → Prop} (h : ((σ 2 5) ≤ x3 → K x2 σ) ∧ (¬ (σ 2 5) ≤ x3 → CallI E shC d mX1_isUp [.ref 2, .int x3, .int x1] σ (fun y2 σ1 => (y2 = 0 → WP E shC mX1_howManyUp (d + 1) 4 [some (.ref 2), some (.int x1), some (.int x2), some (.int (x3 + nI 1))] [] σ1 (k_qi K)) ∧ (¬ y2 = 0 → WP E shC mX1_howManyUp (d + 1) 4 [some (.ref 2), some (.int x1), some (.int (x2 + nI 1)), some (.int (x3 + nI 1))] [] σ1 (k_qi K))))) : WP E shC mX1_howManyUp (d + 1) 4 [some (.ref 2), some (.int x1), some (.int x2), some (.int x3)] [] σ (k_qi K) := by
  refine wp_iload_n (i := 3) dX1_howManyUp_4 rfl rfl ?_
  refine wp_aload_n (i := 0) dX1_howManyUp_5 rfl rfl ?_
  refine wp_getI dX1_howManyUp_6 lf_X1_27 hC_2 rfl ?_
  refine wp_icmpge (tgt := 30) dX1_howManyUp_9 (by decide) ⟨fun q => ?_, fun q => ?_⟩
  · replace h := h.1 q
    refine wp_iload_n (i := 2) dX1_howManyUp_30 rfl rfl ?_
    exact wp_ireturn dX1_howManyUp_31 rfl ⟨_, rfl, h⟩
  · replace h := h.2 q
    refine wp_aload_n (i := 0) dX1_howManyUp_12 rfl rfl ?_
    refine wp_iload_n (i := 3) dX1_howManyUp_13 rfl rfl ?_
    refine wp_iload_n (i := 1) dX1_howManyUp_14 rfl rfl ?_
    refine wp_callVI (vs := [.int x3, .int x1]) (rest := []) dX1_howManyUp_15 mV_X1_isUp lm_X1_56 hC_2 rfl rfl rfl (Nat.le_of_ble_eq_true rfl) (CallI.mono h (fun y2 σ1 h => ?_))
    refine wp_ifeq (tgt := 24) dX1_howManyUp_18 (by decide) ⟨fun q => ?_, fun q => ?_⟩
    · replace h := h.1 q
      refine wp_iinc (i := 3) (v := x3 + nI 1) (Lo' := [some (.ref 2), some (.int x1), some (.int x2), some (.int (x3 + nI 1))]) dX1_howManyUp_24 rfl (by rfl) (by decide) rfl rfl ?_
      refine wp_goto (tgt := 4) dX1_howManyUp_27 (by decide) ?_
      exact wp_mask [true, true, true, true] h
    · replace h := h.2 q
      refine wp_iinc (i := 2) (v := x2 + nI 1) (Lo' := [some (.ref 2), some (.int x1), some (.int (x2 + nI 1)), some (.int x3)]) dX1_howManyUp_21 rfl (by rfl) (by decide) rfl rfl ?_
      refine wp_iinc (i := 3) (v := x3 + nI 1) (Lo' := [some (.ref 2), some (.int x1), some (.int (x2 + nI 1)), some (.int (x3 + nI 1))]) dX1_howManyUp_24 rfl (by rfl) (by decide) rfl rfl ?_
      refine wp_goto (tgt := 4) dX1_howManyUp_27 (by decide) ?_
      exact wp_mask [true, true, true, true] h
set_option maxRecDepth 20000 in
set_option maxHeartbeats 2000000 in
theorem vc_People_howManyUp {E : KE} {d : Nat} {x1 : Int32} {σ : Sg} {K : Int32 → Sg → Prop} (h : WP E shC mX1_howManyUp (d + 1) 4 [some (.ref 2), some (.int x1), some (.int (nI 0)), some (.int (nI 0))] [] σ (k_qi K)) : CallI E shC (d + 1) mX1_howManyUp [.ref 2, .int x1] σ K := by
  refine wp_enter (Lo := [some (.ref 2), some (.int x1), none, none]) mp_X1_howManyUp (Nat.le_of_ble_eq_true rfl) rfl ?_
  refine wp_iconst (v := nI 0) dX1_howManyUp_0 rfl ?_
  refine wp_istore_n (i := 2) (Lo' := [some (.ref 2), some (.int x1), some (.int (nI 0)), none]) dX1_howManyUp_1 rfl (by decide) rfl rfl ?_
  refine wp_iconst (v := nI 0) dX1_howManyUp_2 rfl ?_
  refine wp_istore_n (i := 3) (Lo' := [some (.ref 2), some (.int x1), some (.int (nI 0)), some (.int (nI 0))]) dX1_howManyUp_3 rfl (by decide) rfl rfl ?_
  exact wp_mask [true, true, true, true] h
set_option maxRecDepth 20000 in
set_option maxHeartbeats 2000000 in
theorem vb_SD_alone_20 {E : KE} {d : Nat} {x1 : Int32} {x2 : Int32} {x3 : Int32} {σ : Sg} {K : Int32 → Sg → Prop} (h : (x1 ≤ x3 → K x2 σ) ∧ (¬ x1 ≤ x3 → CallI E shC d mX9_dayIn [.ref 1, .int x3] σ (fun y2 σ1 => CallI E shC d mX1_howManyUp [.ref 2, .int y2] σ1 (fun y4 σ3 => (¬ y4 = 0 → WP E shC mX10_alone (d + 1) 20 [some (.ref 0), some (.int x1), some (.int x2), some (.int (x3 + nI 1))] [] σ3 (k_qi K)) ∧ (y4 = 0 → WP E shC mX10_alone (d + 1) 20 [some (.ref 0), some (.int x1), some (.int (x2 + nI 1)), some (.int (x3 + nI 1))] [] σ3 (k_qi K)))))) : WP E shC mX10_alone (d + 1) 20 [some (.ref 0), some (.int x1), some (.int x2), some (.int x3)] [] σ (k_qi K) := by
  refine wp_iload_n (i := 3) dX10_alone_20 rfl rfl ?_
  refine wp_iload_n (i := 1) dX10_alone_21 rfl rfl ?_
  refine wp_icmpge (tgt := 55) dX10_alone_22 (by decide) ⟨fun q => ?_, fun q => ?_⟩
  · replace h := h.1 q
    refine wp_iload_n (i := 2) dX10_alone_55 rfl rfl ?_
    exact wp_ireturn dX10_alone_56 rfl ⟨_, rfl, h⟩
  · replace h := h.2 q
    refine wp_aload_n (i := 0) dX10_alone_25 rfl rfl ?_
    refine wp_getR (t := 1) dX10_alone_26 lf_X10_10 hC_0 rfl ?_
    refine wp_getR (t := 2) dX10_alone_29 lf_X10_66 hC_1 rfl ?_
    refine wp_aload_n (i := 0) dX10_alone_32 rfl rfl ?_
    refine wp_getR (t := 1) dX10_alone_33 lf_X10_10 hC_0 rfl ?_
    refine wp_iload_n (i := 3) dX10_alone_36 rfl rfl ?_
    refine wp_callVI (vs := [.int x3]) (rest := [.ref 2]) dX10_alone_37 mV_X9_dayIn lm_X10_97 hC_1 rfl rfl rfl (Nat.le_of_ble_eq_true rfl) (CallI.mono h (fun y2 σ1 h => ?_))
    refine wp_callVI (vs := [.int y2]) (rest := []) dX10_alone_40 mV_X1_howManyUp lm_X10_222 hC_2 rfl rfl rfl (Nat.le_of_ble_eq_true rfl) (CallI.mono h (fun y4 σ3 h => ?_))
    refine wp_ifne (tgt := 49) dX10_alone_43 (by decide) ⟨fun q => ?_, fun q => ?_⟩
    · replace h := h.1 q
      refine wp_iinc (i := 3) (v := x3 + nI 1) (Lo' := [some (.ref 0), some (.int x1), some (.int x2), some (.int (x3 + nI 1))]) dX10_alone_49 rfl (by rfl) (by decide) rfl rfl ?_
      refine wp_goto (tgt := 20) dX10_alone_52 (by decide) ?_
      exact wp_mask [true, true, true, true] h
    · replace h := h.2 q
      refine wp_iinc (i := 2) (v := x2 + nI 1) (Lo' := [some (.ref 0), some (.int x1), some (.int (x2 + nI 1)), some (.int x3)]) dX10_alone_46 rfl (by rfl) (by decide) rfl rfl ?_
      refine wp_iinc (i := 3) (v := x3 + nI 1) (Lo' := [some (.ref 0), some (.int x1), some (.int (x2 + nI 1)), some (.int (x3 + nI 1))]) dX10_alone_49 rfl (by rfl) (by decide) rfl rfl ?_
      refine wp_goto (tgt := 20) dX10_alone_52 (by decide) ?_
      exact wp_mask [true, true, true, true] h
set_option maxRecDepth 20000 in
set_option maxHeartbeats 2000000 in
theorem vc_SD_alone {E : KE} {d : Nat} {x1 : Int32} {σ : Sg} {K : Int32 → Sg → Prop} (h : CallI E shC d mX10_isWithin [.int x1, .int (nI 1), .int (nI 60)] σ (fun y2 σ1 => (¬ y2 = 0 → WP E shC mX10_alone (d + 1) 20 [some (.ref 0), some (.int x1), some (.int (nI 0)), some (.int (nI 0))] [] σ1 (k_qi K)) ∧ (y2 = 0 → CallI E shC d mX10_error [.ref 0, .int (nI 1)] σ1 (fun y4 σ3 => K y4 σ3)))) : CallI E shC (d + 1) mX10_alone [.ref 0, .int x1] σ K := by
  refine wp_enter (Lo := [some (.ref 0), some (.int x1), none, none]) mp_X10_alone (Nat.le_of_ble_eq_true rfl) rfl ?_
  refine wp_iload_n (i := 1) dX10_alone_0 rfl rfl ?_
  refine wp_iconst (v := nI 1) dX10_alone_1 rfl ?_
  refine wp_bipush (v := nI 60) dX10_alone_2 (by decide) ?_
  refine wp_callSI (vs := [.int x1, .int (nI 1), .int (nI 60)]) (rest := []) dX10_alone_4 mS_X10_isWithin lm_X10_81 rfl rfl (Nat.le_of_ble_eq_true rfl) (CallI.mono h (fun y2 σ1 h => ?_))
  refine wp_ifne (tgt := 16) dX10_alone_7 (by decide) ⟨fun q => ?_, fun q => ?_⟩
  · replace h := h.1 q
    refine wp_iconst (v := nI 0) dX10_alone_16 rfl ?_
    refine wp_istore_n (i := 2) (Lo' := [some (.ref 0), some (.int x1), some (.int (nI 0)), none]) dX10_alone_17 rfl (by decide) rfl rfl ?_
    refine wp_iconst (v := nI 0) dX10_alone_18 rfl ?_
    refine wp_istore_n (i := 3) (Lo' := [some (.ref 0), some (.int x1), some (.int (nI 0)), some (.int (nI 0))]) dX10_alone_19 rfl (by decide) rfl rfl ?_
    exact wp_mask [true, true, true, true] h
  · replace h := h.2 q
    refine wp_aload_n (i := 0) dX10_alone_10 rfl rfl ?_
    refine wp_iconst (v := nI 1) dX10_alone_11 rfl ?_
    refine wp_callVI (vs := [.int (nI 1)]) (rest := []) dX10_alone_12 mV_X10_error lm_X10_62 hC_0 rfl rfl rfl (Nat.le_of_ble_eq_true rfl) (CallI.mono h (fun y4 σ3 h => ?_))
    exact wp_ireturn dX10_alone_15 rfl ⟨_, rfl, h⟩
set_option maxRecDepth 20000 in
set_option maxHeartbeats 2000000 in
theorem vb_People_upDays_4 {E : KE} {d : Nat} {x1 : Int32} {x2 : Int32} {x3 : Int32} {σ : Sg} {K : Int32 → Sg → Prop} (h : ((nI 28) ≤ x3 → K x2 σ) ∧ (¬ (nI 28) ≤ x3 → CallI E shC d mX1_livesOf [.ref 2, .int x1, .int x3] σ (fun y2 σ1 => (y2 ≤ 0 → WP E shC mX1_upDays (d + 1) 4 [some (.ref 2), some (.int x1), some (.int x2), some (.int (x3 + nI 1))] [] σ1 (k_qi K)) ∧ (¬ y2 ≤ 0 → WP E shC mX1_upDays (d + 1) 4 [some (.ref 2), some (.int x1), some (.int (x2 ||| ((nI 1) <<< (x3 &&& 31)))), some (.int (x3 + nI 1))] [] σ1 (k_qi K))))) : WP E shC mX1_upDays (d + 1) 4 [some (.ref 2), some (.int x1), some (.int x2), some (.int x3)] [] σ (k_qi K) := by
  refine wp_iload_n (i := 3) dX1_upDays_4 rfl rfl ?_
  refine wp_bipush (v := nI 28) dX1_upDays_5 (by decide) ?_
  refine wp_icmpge (tgt := 31) dX1_upDays_7 (by decide) ⟨fun q => ?_, fun q => ?_⟩
  · replace h := h.1 q
    refine wp_iload_n (i := 2) dX1_upDays_31 rfl rfl ?_
    exact wp_ireturn dX1_upDays_32 rfl ⟨_, rfl, h⟩
  · replace h := h.2 q
    refine wp_aload_n (i := 0) dX1_upDays_10 rfl rfl ?_
    refine wp_iload_n (i := 1) dX1_upDays_11 rfl rfl ?_
    refine wp_iload_n (i := 3) dX1_upDays_12 rfl rfl ?_
    refine wp_callVI (vs := [.int x1, .int x3]) (rest := []) dX1_upDays_13 mV_X1_livesOf lm_X1_53 hC_2 rfl rfl rfl (Nat.le_of_ble_eq_true rfl) (CallI.mono h (fun y2 σ1 h => ?_))
    refine wp_ifle (tgt := 25) dX1_upDays_16 (by decide) ⟨fun q => ?_, fun q => ?_⟩
    · replace h := h.1 q
      refine wp_iinc (i := 3) (v := x3 + nI 1) (Lo' := [some (.ref 2), some (.int x1), some (.int x2), some (.int (x3 + nI 1))]) dX1_upDays_25 rfl (by rfl) (by decide) rfl rfl ?_
      refine wp_goto (tgt := 4) dX1_upDays_28 (by decide) ?_
      exact wp_mask [true, true, true, true] h
    · replace h := h.2 q
      refine wp_iload_n (i := 2) dX1_upDays_19 rfl rfl ?_
      refine wp_iconst (v := nI 1) dX1_upDays_20 rfl ?_
      refine wp_iload_n (i := 3) dX1_upDays_21 rfl rfl ?_
      refine wp_ishl dX1_upDays_22 ?_
      refine wp_ior dX1_upDays_23 ?_
      refine wp_istore_n (i := 2) (Lo' := [some (.ref 2), some (.int x1), some (.int (x2 ||| ((nI 1) <<< (x3 &&& 31)))), some (.int x3)]) dX1_upDays_24 rfl (by decide) rfl rfl ?_
      refine wp_iinc (i := 3) (v := x3 + nI 1) (Lo' := [some (.ref 2), some (.int x1), some (.int (x2 ||| ((nI 1) <<< (x3 &&& 31)))), some (.int (x3 + nI 1))]) dX1_upDays_25 rfl (by rfl) (by decide) rfl rfl ?_
      refine wp_goto (tgt := 4) dX1_upDays_28 (by decide) ?_
      exact wp_mask [true, true, true, true] h
set_option maxRecDepth 20000 in
set_option maxHeartbeats 2000000 in
theorem vc_People_upDays {E : KE} {d : Nat} {x1 : Int32} {σ : Sg} {K : Int32 → Sg → Prop} (h : WP E shC mX1_upDays (d + 1) 4 [some (.ref 2), some (.int x1), some (.int (nI 0)), some (.int (nI 0))] [] σ (k_qi K)) : CallI E shC (d + 1) mX1_upDays [.ref 2, .int x1] σ K := by
  refine wp_enter (Lo := [some (.ref 2), some (.int x1), none, none]) mp_X1_upDays (Nat.le_of_ble_eq_true rfl) rfl ?_
  refine wp_iconst (v := nI 0) dX1_upDays_0 rfl ?_
  refine wp_istore_n (i := 2) (Lo' := [some (.ref 2), some (.int x1), some (.int (nI 0)), none]) dX1_upDays_1 rfl (by decide) rfl rfl ?_
  refine wp_iconst (v := nI 0) dX1_upDays_2 rfl ?_
  refine wp_istore_n (i := 3) (Lo' := [some (.ref 2), some (.int x1), some (.int (nI 0)), some (.int (nI 0))]) dX1_upDays_3 rfl (by decide) rfl rfl ?_
  exact wp_mask [true, true, true, true] h
set_option maxRecDepth 20000 in
set_option maxHeartbeats 2000000 in
theorem vb_SD_meet_48 {E : KE} {d : Nat} {x3 : Int32} {x4 : Int32} {σ : Sg} {K : Int32 → Sg → Prop} (h : ((nI 28) ≤ x4 → CallI E shC d mX10_error [.ref 0, .int (nI 2)] σ (fun y2 σ1 => K y2 σ1)) ∧ (¬ (nI 28) ≤ x4 → CallI E shC d mX9_dayIn [.ref 1, .int x4] σ (fun y4 σ3 => (¬ ((x3 >>> (y4 &&& 31)) &&& (nI 1)) = (nI 1) → WP E shC mX10_meet (d + 1) 48 [some (.ref 0), none, none, some (.int x3), some (.int (x4 + nI 1))] [] σ3 (k_qi K)) ∧ (((x3 >>> (y4 &&& 31)) &&& (nI 1)) = (nI 1) → K x4 σ3)))) : WP E shC mX10_meet (d + 1) 48 [some (.ref 0), none, none, some (.int x3), some (.int x4)] [] σ (k_qi K) := by
  refine wp_iload (i := 4) dX10_meet_48 rfl ?_
  refine wp_bipush (v := nI 28) dX10_meet_50 (by decide) ?_
  refine wp_icmpge (tgt := 81) dX10_meet_52 (by decide) ⟨fun q => ?_, fun q => ?_⟩
  · replace h := h.1 q
    refine wp_aload_n (i := 0) dX10_meet_81 rfl rfl ?_
    refine wp_iconst (v := nI 2) dX10_meet_82 rfl ?_
    refine wp_callVI (vs := [.int (nI 2)]) (rest := []) dX10_meet_83 mV_X10_error lm_X10_62 hC_0 rfl rfl rfl (Nat.le_of_ble_eq_true rfl) (CallI.mono h (fun y2 σ1 h => ?_))
    exact wp_ireturn dX10_meet_86 rfl ⟨_, rfl, h⟩
  · replace h := h.2 q
    refine wp_iload_n (i := 3) dX10_meet_55 rfl rfl ?_
    refine wp_aload_n (i := 0) dX10_meet_56 rfl rfl ?_
    refine wp_getR (t := 1) dX10_meet_57 lf_X10_10 hC_0 rfl ?_
    refine wp_iload (i := 4) dX10_meet_60 rfl ?_
    refine wp_callVI (vs := [.int x4]) (rest := [.int x3]) dX10_meet_62 mV_X9_dayIn lm_X10_97 hC_1 rfl rfl rfl (Nat.le_of_ble_eq_true rfl) (CallI.mono h (fun y4 σ3 h => ?_))
    refine wp_ishr dX10_meet_65 ?_
    refine wp_iconst (v := nI 1) dX10_meet_66 rfl ?_
    refine wp_iand dX10_meet_67 ?_
    refine wp_iconst (v := nI 1) dX10_meet_68 rfl ?_
    refine wp_icmpne (tgt := 75) dX10_meet_69 (by decide) ⟨fun q => ?_, fun q => ?_⟩
    · replace h := h.1 q
      refine wp_iinc (i := 4) (v := x4 + nI 1) (Lo' := [some (.ref 0), none, none, some (.int x3), some (.int (x4 + nI 1))]) dX10_meet_75 rfl (by rfl) (by decide) rfl rfl ?_
      refine wp_goto (tgt := 48) dX10_meet_78 (by decide) ?_
      exact wp_mask [true, false, false, true, true] h
    · replace h := h.2 q
      refine wp_iload (i := 4) dX10_meet_72 rfl ?_
      exact wp_ireturn dX10_meet_74 rfl ⟨_, rfl, h⟩
set_option maxRecDepth 20000 in
set_option maxHeartbeats 2000000 in
theorem vc_SD_meet {E : KE} {d : Nat} {x1 : Int32} {x2 : Int32} {σ : Sg} {K : Int32 → Sg → Prop} (h : CallI E shC d mX1_areTwo [.ref 2, .int x1, .int x2] σ (fun y2 σ1 => (¬ y2 = 0 → CallI E shC d mX1_upDays [.ref 2, .int x1] σ1 (fun y4 σ3 => CallI E shC d mX1_upDays [.ref 2, .int x2] σ3 (fun y6 σ5 => WP E shC mX10_meet (d + 1) 48 [some (.ref 0), none, none, some (.int (y4 &&& y6)), some (.int (nI 0))] [] σ5 (k_qi K)))) ∧ (y2 = 0 → CallI E shC d mX10_error [.ref 0, .int (nI 1)] σ1 (fun y8 σ7 => K y8 σ7)))) : CallI E shC (d + 1) mX10_meet [.ref 0, .int x1, .int x2] σ K := by
  refine wp_enter (Lo := [some (.ref 0), some (.int x1), some (.int x2), none, none]) mp_X10_meet (Nat.le_of_ble_eq_true rfl) rfl ?_
  refine wp_aload_n (i := 0) dX10_meet_0 rfl rfl ?_
  refine wp_getR (t := 1) dX10_meet_1 lf_X10_10 hC_0 rfl ?_
  refine wp_getR (t := 2) dX10_meet_4 lf_X10_66 hC_1 rfl ?_
  refine wp_iload_n (i := 1) dX10_meet_7 rfl rfl ?_
  refine wp_iload_n (i := 2) dX10_meet_8 rfl rfl ?_
  refine wp_callVI (vs := [.int x1, .int x2]) (rest := []) dX10_meet_9 mV_X1_areTwo lm_X10_128 hC_2 rfl rfl rfl (Nat.le_of_ble_eq_true rfl) (CallI.mono h (fun y2 σ1 h => ?_))
  refine wp_ifne (tgt := 21) dX10_meet_12 (by decide) ⟨fun q => ?_, fun q => ?_⟩
  · replace h := h.1 q
    refine wp_aload_n (i := 0) dX10_meet_21 rfl rfl ?_
    refine wp_getR (t := 1) dX10_meet_22 lf_X10_10 hC_0 rfl ?_
    refine wp_getR (t := 2) dX10_meet_25 lf_X10_66 hC_1 rfl ?_
    refine wp_iload_n (i := 1) dX10_meet_28 rfl rfl ?_
    refine wp_callVI (vs := [.int x1]) (rest := []) dX10_meet_29 mV_X1_upDays lm_X10_225 hC_2 rfl rfl rfl (Nat.le_of_ble_eq_true rfl) (CallI.mono h (fun y4 σ3 h => ?_))
    refine wp_aload_n (i := 0) dX10_meet_32 rfl rfl ?_
    refine wp_getR (t := 1) dX10_meet_33 lf_X10_10 hC_0 rfl ?_
    refine wp_getR (t := 2) dX10_meet_36 lf_X10_66 hC_1 rfl ?_
    refine wp_iload_n (i := 2) dX10_meet_39 rfl rfl ?_
    refine wp_callVI (vs := [.int x2]) (rest := [.int y4]) dX10_meet_40 mV_X1_upDays lm_X10_225 hC_2 rfl rfl rfl (Nat.le_of_ble_eq_true rfl) (CallI.mono h (fun y6 σ5 h => ?_))
    refine wp_iand dX10_meet_43 ?_
    refine wp_istore_n (i := 3) (Lo' := [some (.ref 0), some (.int x1), some (.int x2), some (.int (y4 &&& y6)), none]) dX10_meet_44 rfl (by decide) rfl rfl ?_
    refine wp_iconst (v := nI 0) dX10_meet_45 rfl ?_
    refine wp_istore (i := 4) (Lo' := [some (.ref 0), some (.int x1), some (.int x2), some (.int (y4 &&& y6)), some (.int (nI 0))]) dX10_meet_46 (by decide) rfl rfl ?_
    exact wp_mask [true, false, false, true, true] h
  · replace h := h.2 q
    refine wp_aload_n (i := 0) dX10_meet_15 rfl rfl ?_
    refine wp_iconst (v := nI 1) dX10_meet_16 rfl ?_
    refine wp_callVI (vs := [.int (nI 1)]) (rest := []) dX10_meet_17 mV_X10_error lm_X10_62 hC_0 rfl rfl rfl (Nat.le_of_ble_eq_true rfl) (CallI.mono h (fun y8 σ7 h => ?_))
    exact wp_ireturn dX10_meet_20 rfl ⟨_, rfl, h⟩
set_option maxRecDepth 20000 in
set_option maxHeartbeats 2000000 in
theorem vb_Thoughts_daysKeptBy_4 {E : KE} {d : Nat} {x1 : Int32} {x2 : Int32} {x3 : Int32} {σ : Sg} {K : Int32 → Sg → Prop} (h : ((nI 6) ≤ x3 → K x2 σ) ∧ (¬ (nI 6) ≤ x3 → (¬ ((x1 >>> (x3 &&& 31)) &&& (nI 1)) = (nI 1) → WP E shC mX7_daysKeptBy d 4 [some (.ref 52), some (.int x1), some (.int x2), some (.int (x3 + nI 1))] [] σ (k_qi K)) ∧ (((x1 >>> (x3 &&& 31)) &&& (nI 1)) = (nI 1) → vp_in x3 6 ∧ (WP E shC mX7_daysKeptBy d 4 [some (.ref 52), some (.int x1), some (.int (x2 ||| (σ 53 x3.toNatClampNeg))), some (.int (x3 + nI 1))] [] σ (k_qi K))))) : WP E shC mX7_daysKeptBy d 4 [some (.ref 52), some (.int x1), some (.int x2), some (.int x3)] [] σ (k_qi K) := by
  refine wp_iload_n (i := 3) dX7_daysKeptBy_4 rfl rfl ?_
  refine wp_bipush (v := nI 6) dX7_daysKeptBy_5 (by decide) ?_
  refine wp_icmpge (tgt := 34) dX7_daysKeptBy_7 (by decide) ⟨fun q => ?_, fun q => ?_⟩
  · replace h := h.1 q
    refine wp_iload_n (i := 2) dX7_daysKeptBy_34 rfl rfl ?_
    exact wp_ireturn dX7_daysKeptBy_35 rfl ⟨_, rfl, h⟩
  · replace h := h.2 q
    refine wp_iload_n (i := 1) dX7_daysKeptBy_10 rfl rfl ?_
    refine wp_iload_n (i := 3) dX7_daysKeptBy_11 rfl rfl ?_
    refine wp_ishr dX7_daysKeptBy_12 ?_
    refine wp_iconst (v := nI 1) dX7_daysKeptBy_13 rfl ?_
    refine wp_iand dX7_daysKeptBy_14 ?_
    refine wp_iconst (v := nI 1) dX7_daysKeptBy_15 rfl ?_
    refine wp_icmpne (tgt := 28) dX7_daysKeptBy_16 (by decide) ⟨fun q => ?_, fun q => ?_⟩
    · replace h := h.1 q
      refine wp_iinc (i := 3) (v := x3 + nI 1) (Lo' := [some (.ref 52), some (.int x1), some (.int x2), some (.int (x3 + nI 1))]) dX7_daysKeptBy_28 rfl (by rfl) (by decide) rfl rfl ?_
      refine wp_goto (tgt := 4) dX7_daysKeptBy_31 (by decide) ?_
      exact wp_mask [true, true, true, true] h
    · replace h := h.2 q
      refine wp_iload_n (i := 2) dX7_daysKeptBy_19 rfl rfl ?_
      refine wp_aload_n (i := 0) dX7_daysKeptBy_20 rfl rfl ?_
      refine wp_getR (t := 53) dX7_daysKeptBy_21 lf_X7_9 hC_52 rfl ?_
      refine wp_iload_n (i := 3) dX7_daysKeptBy_24 rfl rfl ?_
      refine wp_iald dX7_daysKeptBy_25 hC_53 ⟨h.1, ?_⟩
      replace h := h.2
      refine wp_ior dX7_daysKeptBy_26 ?_
      refine wp_istore_n (i := 2) (Lo' := [some (.ref 52), some (.int x1), some (.int (x2 ||| (σ 53 x3.toNatClampNeg))), some (.int x3)]) dX7_daysKeptBy_27 rfl (by decide) rfl rfl ?_
      refine wp_iinc (i := 3) (v := x3 + nI 1) (Lo' := [some (.ref 52), some (.int x1), some (.int (x2 ||| (σ 53 x3.toNatClampNeg))), some (.int (x3 + nI 1))]) dX7_daysKeptBy_28 rfl (by rfl) (by decide) rfl rfl ?_
      refine wp_goto (tgt := 4) dX7_daysKeptBy_31 (by decide) ?_
      exact wp_mask [true, true, true, true] h
set_option maxRecDepth 20000 in
set_option maxHeartbeats 2000000 in
theorem vc_Thoughts_daysKeptBy {E : KE} {d : Nat} {x1 : Int32} {σ : Sg} {K : Int32 → Sg → Prop} (h : WP E shC mX7_daysKeptBy d 4 [some (.ref 52), some (.int x1), some (.int (nI 0)), some (.int (nI 0))] [] σ (k_qi K)) : CallI E shC d mX7_daysKeptBy [.ref 52, .int x1] σ K := by
  refine wp_enter (Lo := [some (.ref 52), some (.int x1), none, none]) mp_X7_daysKeptBy (Nat.le_of_ble_eq_true rfl) rfl ?_
  refine wp_iconst (v := nI 0) dX7_daysKeptBy_0 rfl ?_
  refine wp_istore_n (i := 2) (Lo' := [some (.ref 52), some (.int x1), some (.int (nI 0)), none]) dX7_daysKeptBy_1 rfl (by decide) rfl rfl ?_
  refine wp_iconst (v := nI 0) dX7_daysKeptBy_2 rfl ?_
  refine wp_istore_n (i := 3) (Lo' := [some (.ref 52), some (.int x1), some (.int (nI 0)), some (.int (nI 0))]) dX7_daysKeptBy_3 rfl (by decide) rfl rfl ?_
  exact wp_mask [true, true, true, true] h
set_option maxRecDepth 20000 in
set_option maxHeartbeats 2000000 in
theorem vb_Thoughts_fewestKeepers_31 {E : KE} {d : Nat} {x2 : Int32} {x3 : Int32} {σ : Sg} {K : Int32 → Sg → Prop} (h : (((nI 1) <<< ((σ 2 5) &&& 31)) ≤ x3 → K x2 σ) ∧ (¬ ((nI 1) <<< ((σ 2 5) &&& 31)) ≤ x3 → (x2 = 0 → ((nI 1) = 0 → WP E shC mX7_fewestKeepers (d + 1) 31 [some (.ref 52), some (.ref 2), some (.int x2), some (.int (x3 + nI 1)), none] [] σ (k_qi K)) ∧ (¬ (nI 1) = 0 → CallI E shC d mX7_daysKeptBy [.ref 52, .int x3] σ (fun y2 σ1 => (¬ y2 = (nI 268435455) → WP E shC mX7_fewestKeepers (d + 1) 31 [some (.ref 52), some (.ref 2), some (.int x2), some (.int (x3 + nI 1)), none] [] σ1 (k_qi K)) ∧ (y2 = (nI 268435455) → WP E shC mX7_fewestKeepers (d + 1) 31 [some (.ref 52), some (.ref 2), some (.int x3), some (.int (x3 + nI 1)), none] [] σ1 (k_qi K))))) ∧ (¬ x2 = 0 → CallI E shC d mJ6_bitCount_0f7a4 [.int x3] σ (fun y4 σ3 => CallI E shC d mJ6_bitCount_0f7a4 [.int x2] σ3 (fun y6 σ5 => (y6 ≤ y4 → ((nI 0) = 0 → WP E shC mX7_fewestKeepers (d + 1) 31 [some (.ref 52), some (.ref 2), some (.int x2), some (.int (x3 + nI 1)), none] [] σ5 (k_qi K)) ∧ (¬ (nI 0) = 0 → CallI E shC d mX7_daysKeptBy [.ref 52, .int x3] σ5 (fun y8 σ7 => (¬ y8 = (nI 268435455) → WP E shC mX7_fewestKeepers (d + 1) 31 [some (.ref 52), some (.ref 2), some (.int x2), some (.int (x3 + nI 1)), none] [] σ7 (k_qi K)) ∧ (y8 = (nI 268435455) → WP E shC mX7_fewestKeepers (d + 1) 31 [some (.ref 52), some (.ref 2), some (.int x3), some (.int (x3 + nI 1)), none] [] σ7 (k_qi K))))) ∧ (¬ y6 ≤ y4 → ((nI 1) = 0 → WP E shC mX7_fewestKeepers (d + 1) 31 [some (.ref 52), some (.ref 2), some (.int x2), some (.int (x3 + nI 1)), none] [] σ5 (k_qi K)) ∧ (¬ (nI 1) = 0 → CallI E shC d mX7_daysKeptBy [.ref 52, .int x3] σ5 (fun y10 σ9 => (¬ y10 = (nI 268435455) → WP E shC mX7_fewestKeepers (d + 1) 31 [some (.ref 52), some (.ref 2), some (.int x2), some (.int (x3 + nI 1)), none] [] σ9 (k_qi K)) ∧ (y10 = (nI 268435455) → WP E shC mX7_fewestKeepers (d + 1) 31 [some (.ref 52), some (.ref 2), some (.int x3), some (.int (x3 + nI 1)), none] [] σ9 (k_qi K)))))))))) : WP E shC mX7_fewestKeepers (d + 1) 31 [some (.ref 52), some (.ref 2), some (.int x2), some (.int x3), none] [] σ (k_qi K) := by
  refine wp_iload_n (i := 3) dX7_fewestKeepers_31 rfl rfl ?_
  refine wp_iconst (v := nI 1) dX7_fewestKeepers_32 rfl ?_
  refine wp_aload_n (i := 1) dX7_fewestKeepers_33 rfl rfl ?_
  refine wp_getI dX7_fewestKeepers_34 lf_X7_21 hC_2 rfl ?_
  refine wp_ishl dX7_fewestKeepers_37 ?_
  refine wp_icmpge (tgt := 86) dX7_fewestKeepers_38 (by decide) ⟨fun q => ?_, fun q => ?_⟩
  · replace h := h.1 q
    refine wp_iload_n (i := 2) dX7_fewestKeepers_86 rfl rfl ?_
    exact wp_ireturn dX7_fewestKeepers_87 rfl ⟨_, rfl, h⟩
  · replace h := h.2 q
    refine wp_iload_n (i := 2) dX7_fewestKeepers_41 rfl rfl ?_
    refine wp_ifeq (tgt := 56) dX7_fewestKeepers_42 (by decide) ⟨fun q => ?_, fun q => ?_⟩
    · replace h := h.1 q
      refine wp_iconst (v := nI 1) dX7_fewestKeepers_56 rfl ?_
      refine wp_goto (tgt := 61) dX7_fewestKeepers_57 (by decide) ?_
      refine wp_istore (i := 4) (Lo' := [some (.ref 52), some (.ref 2), some (.int x2), some (.int x3), some (.int (nI 1))]) dX7_fewestKeepers_61 (by decide) rfl rfl ?_
      refine wp_iload (i := 4) dX7_fewestKeepers_63 rfl ?_
      refine wp_ifeq (tgt := 80) dX7_fewestKeepers_65 (by decide) ⟨fun q => ?_, fun q => ?_⟩
      · replace h := h.1 q
        refine wp_iinc (i := 3) (v := x3 + nI 1) (Lo' := [some (.ref 52), some (.ref 2), some (.int x2), some (.int (x3 + nI 1)), some (.int (nI 1))]) dX7_fewestKeepers_80 rfl (by rfl) (by decide) rfl rfl ?_
        refine wp_goto (tgt := 31) dX7_fewestKeepers_83 (by decide) ?_
        exact wp_mask [true, true, true, true, false] h
      · replace h := h.2 q
        refine wp_aload_n (i := 0) dX7_fewestKeepers_68 rfl rfl ?_
        refine wp_iload_n (i := 3) dX7_fewestKeepers_69 rfl rfl ?_
        refine wp_callVI (vs := [.int x3]) (rest := []) dX7_fewestKeepers_70 mV_X7_daysKeptBy lm_X7_35 hC_52 rfl rfl rfl (Nat.le_of_ble_eq_true rfl) (CallI.mono h (fun y2 σ1 h => ?_))
        refine wp_ldc lc_X7_38 dX7_fewestKeepers_73 ?_
        refine wp_icmpne (tgt := 80) dX7_fewestKeepers_75 (by decide) ⟨fun q => ?_, fun q => ?_⟩
        · replace h := h.1 q
          refine wp_iinc (i := 3) (v := x3 + nI 1) (Lo' := [some (.ref 52), some (.ref 2), some (.int x2), some (.int (x3 + nI 1)), some (.int (nI 1))]) dX7_fewestKeepers_80 rfl (by rfl) (by decide) rfl rfl ?_
          refine wp_goto (tgt := 31) dX7_fewestKeepers_83 (by decide) ?_
          exact wp_mask [true, true, true, true, false] h
        · replace h := h.2 q
          refine wp_iload_n (i := 3) dX7_fewestKeepers_78 rfl rfl ?_
          refine wp_istore_n (i := 2) (Lo' := [some (.ref 52), some (.ref 2), some (.int x3), some (.int x3), some (.int (nI 1))]) dX7_fewestKeepers_79 rfl (by decide) rfl rfl ?_
          refine wp_iinc (i := 3) (v := x3 + nI 1) (Lo' := [some (.ref 52), some (.ref 2), some (.int x3), some (.int (x3 + nI 1)), some (.int (nI 1))]) dX7_fewestKeepers_80 rfl (by rfl) (by decide) rfl rfl ?_
          refine wp_goto (tgt := 31) dX7_fewestKeepers_83 (by decide) ?_
          exact wp_mask [true, true, true, true, false] h
    · replace h := h.2 q
      refine wp_iload_n (i := 3) dX7_fewestKeepers_45 rfl rfl ?_
      refine wp_callSI (vs := [.int x3]) (rest := []) dX7_fewestKeepers_46 mS_J6_bitCount_0f7a4 lm_X7_30 rfl rfl (Nat.le_of_ble_eq_true rfl) (CallI.mono h (fun y4 σ3 h => ?_))
      refine wp_iload_n (i := 2) dX7_fewestKeepers_49 rfl rfl ?_
      refine wp_callSI (vs := [.int x2]) (rest := [.int y4]) dX7_fewestKeepers_50 mS_J6_bitCount_0f7a4 lm_X7_30 rfl rfl (Nat.le_of_ble_eq_true rfl) (CallI.mono h (fun y6 σ5 h => ?_))
      refine wp_icmpge (tgt := 60) dX7_fewestKeepers_53 (by decide) ⟨fun q => ?_, fun q => ?_⟩
      · replace h := h.1 q
        refine wp_iconst (v := nI 0) dX7_fewestKeepers_60 rfl ?_
        refine wp_istore (i := 4) (Lo' := [some (.ref 52), some (.ref 2), some (.int x2), some (.int x3), some (.int (nI 0))]) dX7_fewestKeepers_61 (by decide) rfl rfl ?_
        refine wp_iload (i := 4) dX7_fewestKeepers_63 rfl ?_
        refine wp_ifeq (tgt := 80) dX7_fewestKeepers_65 (by decide) ⟨fun q => ?_, fun q => ?_⟩
        · replace h := h.1 q
          refine wp_iinc (i := 3) (v := x3 + nI 1) (Lo' := [some (.ref 52), some (.ref 2), some (.int x2), some (.int (x3 + nI 1)), some (.int (nI 0))]) dX7_fewestKeepers_80 rfl (by rfl) (by decide) rfl rfl ?_
          refine wp_goto (tgt := 31) dX7_fewestKeepers_83 (by decide) ?_
          exact wp_mask [true, true, true, true, false] h
        · replace h := h.2 q
          refine wp_aload_n (i := 0) dX7_fewestKeepers_68 rfl rfl ?_
          refine wp_iload_n (i := 3) dX7_fewestKeepers_69 rfl rfl ?_
          refine wp_callVI (vs := [.int x3]) (rest := []) dX7_fewestKeepers_70 mV_X7_daysKeptBy lm_X7_35 hC_52 rfl rfl rfl (Nat.le_of_ble_eq_true rfl) (CallI.mono h (fun y8 σ7 h => ?_))
          refine wp_ldc lc_X7_38 dX7_fewestKeepers_73 ?_
          refine wp_icmpne (tgt := 80) dX7_fewestKeepers_75 (by decide) ⟨fun q => ?_, fun q => ?_⟩
          · replace h := h.1 q
            refine wp_iinc (i := 3) (v := x3 + nI 1) (Lo' := [some (.ref 52), some (.ref 2), some (.int x2), some (.int (x3 + nI 1)), some (.int (nI 0))]) dX7_fewestKeepers_80 rfl (by rfl) (by decide) rfl rfl ?_
            refine wp_goto (tgt := 31) dX7_fewestKeepers_83 (by decide) ?_
            exact wp_mask [true, true, true, true, false] h
          · replace h := h.2 q
            refine wp_iload_n (i := 3) dX7_fewestKeepers_78 rfl rfl ?_
            refine wp_istore_n (i := 2) (Lo' := [some (.ref 52), some (.ref 2), some (.int x3), some (.int x3), some (.int (nI 0))]) dX7_fewestKeepers_79 rfl (by decide) rfl rfl ?_
            refine wp_iinc (i := 3) (v := x3 + nI 1) (Lo' := [some (.ref 52), some (.ref 2), some (.int x3), some (.int (x3 + nI 1)), some (.int (nI 0))]) dX7_fewestKeepers_80 rfl (by rfl) (by decide) rfl rfl ?_
            refine wp_goto (tgt := 31) dX7_fewestKeepers_83 (by decide) ?_
            exact wp_mask [true, true, true, true, false] h
      · replace h := h.2 q
        refine wp_iconst (v := nI 1) dX7_fewestKeepers_56 rfl ?_
        refine wp_goto (tgt := 61) dX7_fewestKeepers_57 (by decide) ?_
        refine wp_istore (i := 4) (Lo' := [some (.ref 52), some (.ref 2), some (.int x2), some (.int x3), some (.int (nI 1))]) dX7_fewestKeepers_61 (by decide) rfl rfl ?_
        refine wp_iload (i := 4) dX7_fewestKeepers_63 rfl ?_
        refine wp_ifeq (tgt := 80) dX7_fewestKeepers_65 (by decide) ⟨fun q => ?_, fun q => ?_⟩
        · replace h := h.1 q
          refine wp_iinc (i := 3) (v := x3 + nI 1) (Lo' := [some (.ref 52), some (.ref 2), some (.int x2), some (.int (x3 + nI 1)), some (.int (nI 1))]) dX7_fewestKeepers_80 rfl (by rfl) (by decide) rfl rfl ?_
          refine wp_goto (tgt := 31) dX7_fewestKeepers_83 (by decide) ?_
          exact wp_mask [true, true, true, true, false] h
        · replace h := h.2 q
          refine wp_aload_n (i := 0) dX7_fewestKeepers_68 rfl rfl ?_
          refine wp_iload_n (i := 3) dX7_fewestKeepers_69 rfl rfl ?_
          refine wp_callVI (vs := [.int x3]) (rest := []) dX7_fewestKeepers_70 mV_X7_daysKeptBy lm_X7_35 hC_52 rfl rfl rfl (Nat.le_of_ble_eq_true rfl) (CallI.mono h (fun y10 σ9 h => ?_))
          refine wp_ldc lc_X7_38 dX7_fewestKeepers_73 ?_
          refine wp_icmpne (tgt := 80) dX7_fewestKeepers_75 (by decide) ⟨fun q => ?_, fun q => ?_⟩
          · replace h := h.1 q
            refine wp_iinc (i := 3) (v := x3 + nI 1) (Lo' := [some (.ref 52), some (.ref 2), some (.int x2), some (.int (x3 + nI 1)), some (.int (nI 1))]) dX7_fewestKeepers_80 rfl (by rfl) (by decide) rfl rfl ?_
            refine wp_goto (tgt := 31) dX7_fewestKeepers_83 (by decide) ?_
            exact wp_mask [true, true, true, true, false] h
          · replace h := h.2 q
            refine wp_iload_n (i := 3) dX7_fewestKeepers_78 rfl rfl ?_
            refine wp_istore_n (i := 2) (Lo' := [some (.ref 52), some (.ref 2), some (.int x3), some (.int x3), some (.int (nI 1))]) dX7_fewestKeepers_79 rfl (by decide) rfl rfl ?_
            refine wp_iinc (i := 3) (v := x3 + nI 1) (Lo' := [some (.ref 52), some (.ref 2), some (.int x3), some (.int (x3 + nI 1)), some (.int (nI 1))]) dX7_fewestKeepers_80 rfl (by rfl) (by decide) rfl rfl ?_
            refine wp_goto (tgt := 31) dX7_fewestKeepers_83 (by decide) ?_
            exact wp_mask [true, true, true, true, false] h
set_option maxRecDepth 20000 in
set_option maxHeartbeats 2000000 in
theorem vb_Thoughts_fewestKeepers_2 {E : KE} {d : Nat} {x2 : Int32} {σ : Sg} {K : Int32 → Sg → Prop} (h : ((σ 2 5) ≤ x2 → WP E shC mX7_fewestKeepers (d + 1) 31 [some (.ref 52), some (.ref 2), some (.int (nI 0)), some (.int (nI 1)), none] [] σ (k_qi K)) ∧ (¬ (σ 2 5) ≤ x2 → CallI E shC d mX1_upDays [.ref 2, .int x2] σ (fun y2 σ1 => vp_in x2 6 ∧ (∀ σ3, σ3 = k_put σ1 53 (upd (σ1 53) x2.toNatClampNeg y2) → WP E shC mX7_fewestKeepers (d + 1) 2 [some (.ref 52), some (.ref 2), some (.int (x2 + nI 1)), none, none] [] σ3 (k_qi K))))) : WP E shC mX7_fewestKeepers (d + 1) 2 [some (.ref 52), some (.ref 2), some (.int x2), none, none] [] σ (k_qi K) := by
  refine wp_iload_n (i := 2) dX7_fewestKeepers_2 rfl rfl ?_
  refine wp_aload_n (i := 1) dX7_fewestKeepers_3 rfl rfl ?_
  refine wp_getI dX7_fewestKeepers_4 lf_X7_21 hC_2 rfl ?_
  refine wp_icmpge (tgt := 27) dX7_fewestKeepers_7 (by decide) ⟨fun q => ?_, fun q => ?_⟩
  · replace h := h.1 q
    refine wp_iconst (v := nI 0) dX7_fewestKeepers_27 rfl ?_
    refine wp_istore_n (i := 2) (Lo' := [some (.ref 52), some (.ref 2), some (.int (nI 0)), none, none]) dX7_fewestKeepers_28 rfl (by decide) rfl rfl ?_
    refine wp_iconst (v := nI 1) dX7_fewestKeepers_29 rfl ?_
    refine wp_istore_n (i := 3) (Lo' := [some (.ref 52), some (.ref 2), some (.int (nI 0)), some (.int (nI 1)), none]) dX7_fewestKeepers_30 rfl (by decide) rfl rfl ?_
    exact wp_mask [true, true, true, true, false] h
  · replace h := h.2 q
    refine wp_aload_n (i := 0) dX7_fewestKeepers_10 rfl rfl ?_
    refine wp_getR (t := 53) dX7_fewestKeepers_11 lf_X7_9 hC_52 rfl ?_
    refine wp_iload_n (i := 2) dX7_fewestKeepers_14 rfl rfl ?_
    refine wp_aload_n (i := 1) dX7_fewestKeepers_15 rfl rfl ?_
    refine wp_iload_n (i := 2) dX7_fewestKeepers_16 rfl rfl ?_
    refine wp_callVI (vs := [.int x2]) (rest := [.int x2, .ref 53]) dX7_fewestKeepers_17 mV_X1_upDays lm_X7_27 hC_2 rfl rfl rfl (Nat.le_of_ble_eq_true rfl) (CallI.mono h (fun y2 σ1 h => ?_))
    refine wp_iast dX7_fewestKeepers_20 hC_53 ⟨h.1, ?_⟩
    refine wp_nm (fun σ3 e4 => ?_)
    replace h := h.2 σ3 e4
    refine wp_iinc (i := 2) (v := x2 + nI 1) (Lo' := [some (.ref 52), some (.ref 2), some (.int (x2 + nI 1)), none, none]) dX7_fewestKeepers_21 rfl (by rfl) (by decide) rfl rfl ?_
    refine wp_goto (tgt := 2) dX7_fewestKeepers_24 (by decide) ?_
    exact wp_mask [true, true, true, false, false] h
set_option maxRecDepth 20000 in
set_option maxHeartbeats 2000000 in
theorem vc_Thoughts_fewestKeepers {E : KE} {d : Nat} {σ : Sg} {K : Int32 → Sg → Prop} (h : WP E shC mX7_fewestKeepers (d + 1) 2 [some (.ref 52), some (.ref 2), some (.int (nI 0)), none, none] [] σ (k_qi K)) : CallI E shC (d + 1) mX7_fewestKeepers [.ref 52, .ref 2] σ K := by
  refine wp_enter (Lo := [some (.ref 52), some (.ref 2), none, none, none]) mp_X7_fewestKeepers (Nat.le_of_ble_eq_true rfl) rfl ?_
  refine wp_iconst (v := nI 0) dX7_fewestKeepers_0 rfl ?_
  refine wp_istore_n (i := 2) (Lo' := [some (.ref 52), some (.ref 2), some (.int (nI 0)), none, none]) dX7_fewestKeepers_1 rfl (by decide) rfl rfl ?_
  exact wp_mask [true, true, true, false, false] h
set_option maxRecDepth 20000 in
set_option maxHeartbeats 2000000 in
theorem vc_SD_keepers {E : KE} {d : Nat} {x1 : Int32} {σ : Sg} {K : Int32 → Sg → Prop} (h : CallI E shC d mX10_isWithin [.int x1, .int (nI 0), .int (nI 1)] σ (fun y2 σ1 => (¬ y2 = 0 → CallI E shC d mX7_fewestKeepers [.ref 52, .ref 2] σ1 (fun y4 σ3 => (¬ y4 = 0 → (¬ x1 = 0 → K y4 σ3) ∧ (x1 = 0 → CallI E shC d mJ6_bitCount_0f7a4 [.int y4] σ3 (fun y6 σ5 => K y6 σ5))) ∧ (y4 = 0 → CallI E shC d mX10_error [.ref 0, .int (nI 2)] σ3 (fun y8 σ7 => K y8 σ7)))) ∧ (y2 = 0 → CallI E shC d mX10_error [.ref 0, .int (nI 1)] σ1 (fun y10 σ9 => K y10 σ9)))) : CallI E shC (d + 1) mX10_keepers [.ref 0, .int x1] σ K := by
  refine wp_enter (Lo := [some (.ref 0), some (.int x1), none]) mp_X10_keepers (Nat.le_of_ble_eq_true rfl) rfl ?_
  refine wp_iload_n (i := 1) dX10_keepers_0 rfl rfl ?_
  refine wp_iconst (v := nI 0) dX10_keepers_1 rfl ?_
  refine wp_iconst (v := nI 1) dX10_keepers_2 rfl ?_
  refine wp_callSI (vs := [.int x1, .int (nI 0), .int (nI 1)]) (rest := []) dX10_keepers_3 mS_X10_isWithin lm_X10_81 rfl rfl (Nat.le_of_ble_eq_true rfl) (CallI.mono h (fun y2 σ1 h => ?_))
  refine wp_ifne (tgt := 15) dX10_keepers_6 (by decide) ⟨fun q => ?_, fun q => ?_⟩
  · replace h := h.1 q
    refine wp_aload_n (i := 0) dX10_keepers_15 rfl rfl ?_
    refine wp_getR (t := 52) dX10_keepers_16 lf_X10_29 hC_0 rfl ?_
    refine wp_aload_n (i := 0) dX10_keepers_19 rfl rfl ?_
    refine wp_getR (t := 1) dX10_keepers_20 lf_X10_10 hC_0 rfl ?_
    refine wp_getR (t := 2) dX10_keepers_23 lf_X10_66 hC_1 rfl ?_
    refine wp_callVI (vs := [.ref 2]) (rest := []) dX10_keepers_26 mV_X7_fewestKeepers lm_X10_228 hC_52 rfl rfl rfl (Nat.le_of_ble_eq_true rfl) (CallI.mono h (fun y4 σ3 h => ?_))
    refine wp_istore_n (i := 2) (Lo' := [some (.ref 0), some (.int x1), some (.int y4)]) dX10_keepers_29 rfl (by decide) rfl rfl ?_
    refine wp_iload_n (i := 2) dX10_keepers_30 rfl rfl ?_
    refine wp_ifne (tgt := 40) dX10_keepers_31 (by decide) ⟨fun q => ?_, fun q => ?_⟩
    · replace h := h.1 q
      refine wp_iload_n (i := 1) dX10_keepers_40 rfl rfl ?_
      refine wp_ifne (tgt := 51) dX10_keepers_41 (by decide) ⟨fun q => ?_, fun q => ?_⟩
      · replace h := h.1 q
        refine wp_iload_n (i := 2) dX10_keepers_51 rfl rfl ?_
        exact wp_ireturn dX10_keepers_52 rfl ⟨_, rfl, h⟩
      · replace h := h.2 q
        refine wp_iload_n (i := 2) dX10_keepers_44 rfl rfl ?_
        refine wp_callSI (vs := [.int y4]) (rest := []) dX10_keepers_45 mS_J6_bitCount_0f7a4 lm_X10_232 rfl rfl (Nat.le_of_ble_eq_true rfl) (CallI.mono h (fun y6 σ5 h => ?_))
        refine wp_goto (tgt := 52) dX10_keepers_48 (by decide) ?_
        exact wp_ireturn dX10_keepers_52 rfl ⟨_, rfl, h⟩
    · replace h := h.2 q
      refine wp_aload_n (i := 0) dX10_keepers_34 rfl rfl ?_
      refine wp_iconst (v := nI 2) dX10_keepers_35 rfl ?_
      refine wp_callVI (vs := [.int (nI 2)]) (rest := []) dX10_keepers_36 mV_X10_error lm_X10_62 hC_0 rfl rfl rfl (Nat.le_of_ble_eq_true rfl) (CallI.mono h (fun y8 σ7 h => ?_))
      exact wp_ireturn dX10_keepers_39 rfl ⟨_, rfl, h⟩
  · replace h := h.2 q
    refine wp_aload_n (i := 0) dX10_keepers_9 rfl rfl ?_
    refine wp_iconst (v := nI 1) dX10_keepers_10 rfl ?_
    refine wp_callVI (vs := [.int (nI 1)]) (rest := []) dX10_keepers_11 mV_X10_error lm_X10_62 hC_0 rfl rfl rfl (Nat.le_of_ble_eq_true rfl) (CallI.mono h (fun y10 σ9 h => ?_))
    exact wp_ireturn dX10_keepers_14 rfl ⟨_, rfl, h⟩
set_option maxRecDepth 20000 in
set_option maxHeartbeats 2000000 in
theorem vc_Thoughts_isLess {E : KE} {d : Nat} {x1 : Int32} {x2 : Int32} {σ : Sg} {K : Int32 → Sg → Prop} (h : vp_in x1 28 ∧ (vp_in x2 28 ∧ (((σ 55 x1.toNatClampNeg) = (σ 55 x2.toNatClampNeg) → vp_in x1 28 ∧ (vp_in x2 28 ∧ (((σ 54 x2.toNatClampNeg) ≤ (σ 54 x1.toNatClampNeg) → K (nI 0) σ) ∧ (¬ (σ 54 x2.toNatClampNeg) ≤ (σ 54 x1.toNatClampNeg) → K (nI 1) σ)))) ∧ (¬ (σ 55 x1.toNatClampNeg) = (σ 55 x2.toNatClampNeg) → vp_in x1 28 ∧ (vp_in x2 28 ∧ (((σ 55 x2.toNatClampNeg) ≤ (σ 55 x1.toNatClampNeg) → K (nI 0) σ) ∧ (¬ (σ 55 x2.toNatClampNeg) ≤ (σ 55 x1.toNatClampNeg) → K (nI 1) σ))))))) : CallI E shC d mX7_isLess [.ref 52, .int x1, .int x2] σ K := by
  refine wp_enter (Lo := [some (.ref 52), some (.int x1), some (.int x2)]) mp_X7_isLess (Nat.le_of_ble_eq_true rfl) rfl ?_
  refine wp_aload_n (i := 0) dX7_isLess_0 rfl rfl ?_
  refine wp_getR (t := 55) dX7_isLess_1 lf_X7_18 hC_52 rfl ?_
  refine wp_iload_n (i := 1) dX7_isLess_4 rfl rfl ?_
  refine wp_iald dX7_isLess_5 hC_55 ⟨h.1, ?_⟩
  replace h := h.2
  refine wp_aload_n (i := 0) dX7_isLess_6 rfl rfl ?_
  refine wp_getR (t := 55) dX7_isLess_7 lf_X7_18 hC_52 rfl ?_
  refine wp_iload_n (i := 2) dX7_isLess_10 rfl rfl ?_
  refine wp_iald dX7_isLess_11 hC_55 ⟨h.1, ?_⟩
  replace h := h.2
  refine wp_icmpeq (tgt := 36) dX7_isLess_12 (by decide) ⟨fun q => ?_, fun q => ?_⟩
  · replace h := h.1 q
    refine wp_aload_n (i := 0) dX7_isLess_36 rfl rfl ?_
    refine wp_getR (t := 54) dX7_isLess_37 lf_X7_15 hC_52 rfl ?_
    refine wp_iload_n (i := 1) dX7_isLess_40 rfl rfl ?_
    refine wp_iald dX7_isLess_41 hC_54 ⟨h.1, ?_⟩
    replace h := h.2
    refine wp_aload_n (i := 0) dX7_isLess_42 rfl rfl ?_
    refine wp_getR (t := 54) dX7_isLess_43 lf_X7_15 hC_52 rfl ?_
    refine wp_iload_n (i := 2) dX7_isLess_46 rfl rfl ?_
    refine wp_iald dX7_isLess_47 hC_54 ⟨h.1, ?_⟩
    replace h := h.2
    refine wp_icmpge (tgt := 55) dX7_isLess_48 (by decide) ⟨fun q => ?_, fun q => ?_⟩
    · replace h := h.1 q
      refine wp_iconst (v := nI 0) dX7_isLess_55 rfl ?_
      exact wp_zreturn dX7_isLess_56 rfl ⟨rfl, _, rfl, h⟩
    · replace h := h.2 q
      refine wp_iconst (v := nI 1) dX7_isLess_51 rfl ?_
      refine wp_goto (tgt := 56) dX7_isLess_52 (by decide) ?_
      exact wp_zreturn dX7_isLess_56 rfl ⟨rfl, _, rfl, h⟩
  · replace h := h.2 q
    refine wp_aload_n (i := 0) dX7_isLess_15 rfl rfl ?_
    refine wp_getR (t := 55) dX7_isLess_16 lf_X7_18 hC_52 rfl ?_
    refine wp_iload_n (i := 1) dX7_isLess_19 rfl rfl ?_
    refine wp_iald dX7_isLess_20 hC_55 ⟨h.1, ?_⟩
    replace h := h.2
    refine wp_aload_n (i := 0) dX7_isLess_21 rfl rfl ?_
    refine wp_getR (t := 55) dX7_isLess_22 lf_X7_18 hC_52 rfl ?_
    refine wp_iload_n (i := 2) dX7_isLess_25 rfl rfl ?_
    refine wp_iald dX7_isLess_26 hC_55 ⟨h.1, ?_⟩
    replace h := h.2
    refine wp_icmpge (tgt := 34) dX7_isLess_27 (by decide) ⟨fun q => ?_, fun q => ?_⟩
    · replace h := h.1 q
      refine wp_iconst (v := nI 0) dX7_isLess_34 rfl ?_
      exact wp_zreturn dX7_isLess_35 rfl ⟨rfl, _, rfl, h⟩
    · replace h := h.2 q
      refine wp_iconst (v := nI 1) dX7_isLess_30 rfl ?_
      refine wp_goto (tgt := 35) dX7_isLess_31 (by decide) ?_
      exact wp_zreturn dX7_isLess_35 rfl ⟨rfl, _, rfl, h⟩
set_option maxRecDepth 20000 in
set_option maxHeartbeats 2000000 in
theorem vb_Thoughts_leastOf_4 {E : KE} {d : Nat} {x1 : Int32} {x2 : Int32} {x3 : Int32} {σ : Sg} {K : Int32 → Sg → Prop} (h : ((nI 28) ≤ x3 → K x2 σ) ∧ (¬ (nI 28) ≤ x3 → (¬ ((x1 >>> (x3 &&& 31)) &&& (nI 1)) = (nI 1) → WP E shC mX7_leastOf (d + 1) 4 [some (.ref 52), some (.int x1), some (.int x2), some (.int (x3 + nI 1))] [] σ (k_qi K)) ∧ (((x1 >>> (x3 &&& 31)) &&& (nI 1)) = (nI 1) → (x2 = (-1 : Int32) → WP E shC mX7_leastOf (d + 1) 4 [some (.ref 52), some (.int x1), some (.int x3), some (.int (x3 + nI 1))] [] σ (k_qi K)) ∧ (¬ x2 = (-1 : Int32) → CallI E shC d mX7_isLess [.ref 52, .int x3, .int x2] σ (fun y2 σ1 => (y2 = 0 → WP E shC mX7_leastOf (d + 1) 4 [some (.ref 52), some (.int x1), some (.int x2), some (.int (x3 + nI 1))] [] σ1 (k_qi K)) ∧ (¬ y2 = 0 → WP E shC mX7_leastOf (d + 1) 4 [some (.ref 52), some (.int x1), some (.int x3), some (.int (x3 + nI 1))] [] σ1 (k_qi K))))))) : WP E shC mX7_leastOf (d + 1) 4 [some (.ref 52), some (.int x1), some (.int x2), some (.int x3)] [] σ (k_qi K) := by
  refine wp_iload_n (i := 3) dX7_leastOf_4 rfl rfl ?_
  refine wp_bipush (v := nI 28) dX7_leastOf_5 (by decide) ?_
  refine wp_icmpge (tgt := 41) dX7_leastOf_7 (by decide) ⟨fun q => ?_, fun q => ?_⟩
  · replace h := h.1 q
    refine wp_iload_n (i := 2) dX7_leastOf_41 rfl rfl ?_
    exact wp_ireturn dX7_leastOf_42 rfl ⟨_, rfl, h⟩
  · replace h := h.2 q
    refine wp_iload_n (i := 1) dX7_leastOf_10 rfl rfl ?_
    refine wp_iload_n (i := 3) dX7_leastOf_11 rfl rfl ?_
    refine wp_ishr dX7_leastOf_12 ?_
    refine wp_iconst (v := nI 1) dX7_leastOf_13 rfl ?_
    refine wp_iand dX7_leastOf_14 ?_
    refine wp_iconst (v := nI 1) dX7_leastOf_15 rfl ?_
    refine wp_icmpne (tgt := 35) dX7_leastOf_16 (by decide) ⟨fun q => ?_, fun q => ?_⟩
    · replace h := h.1 q
      refine wp_iinc (i := 3) (v := x3 + nI 1) (Lo' := [some (.ref 52), some (.int x1), some (.int x2), some (.int (x3 + nI 1))]) dX7_leastOf_35 rfl (by rfl) (by decide) rfl rfl ?_
      refine wp_goto (tgt := 4) dX7_leastOf_38 (by decide) ?_
      exact wp_mask [true, true, true, true] h
    · replace h := h.2 q
      refine wp_iload_n (i := 2) dX7_leastOf_19 rfl rfl ?_
      refine wp_iconst (v := (-1 : Int32)) dX7_leastOf_20 rfl ?_
      refine wp_icmpeq (tgt := 33) dX7_leastOf_21 (by decide) ⟨fun q => ?_, fun q => ?_⟩
      · replace h := h.1 q
        refine wp_iload_n (i := 3) dX7_leastOf_33 rfl rfl ?_
        refine wp_istore_n (i := 2) (Lo' := [some (.ref 52), some (.int x1), some (.int x3), some (.int x3)]) dX7_leastOf_34 rfl (by decide) rfl rfl ?_
        refine wp_iinc (i := 3) (v := x3 + nI 1) (Lo' := [some (.ref 52), some (.int x1), some (.int x3), some (.int (x3 + nI 1))]) dX7_leastOf_35 rfl (by rfl) (by decide) rfl rfl ?_
        refine wp_goto (tgt := 4) dX7_leastOf_38 (by decide) ?_
        exact wp_mask [true, true, true, true] h
      · replace h := h.2 q
        refine wp_aload_n (i := 0) dX7_leastOf_24 rfl rfl ?_
        refine wp_iload_n (i := 3) dX7_leastOf_25 rfl rfl ?_
        refine wp_iload_n (i := 2) dX7_leastOf_26 rfl rfl ?_
        refine wp_callVI (vs := [.int x3, .int x2]) (rest := []) dX7_leastOf_27 mV_X7_isLess lm_X7_84 hC_52 rfl rfl rfl (Nat.le_of_ble_eq_true rfl) (CallI.mono h (fun y2 σ1 h => ?_))
        refine wp_ifeq (tgt := 35) dX7_leastOf_30 (by decide) ⟨fun q => ?_, fun q => ?_⟩
        · replace h := h.1 q
          refine wp_iinc (i := 3) (v := x3 + nI 1) (Lo' := [some (.ref 52), some (.int x1), some (.int x2), some (.int (x3 + nI 1))]) dX7_leastOf_35 rfl (by rfl) (by decide) rfl rfl ?_
          refine wp_goto (tgt := 4) dX7_leastOf_38 (by decide) ?_
          exact wp_mask [true, true, true, true] h
        · replace h := h.2 q
          refine wp_iload_n (i := 3) dX7_leastOf_33 rfl rfl ?_
          refine wp_istore_n (i := 2) (Lo' := [some (.ref 52), some (.int x1), some (.int x3), some (.int x3)]) dX7_leastOf_34 rfl (by decide) rfl rfl ?_
          refine wp_iinc (i := 3) (v := x3 + nI 1) (Lo' := [some (.ref 52), some (.int x1), some (.int x3), some (.int (x3 + nI 1))]) dX7_leastOf_35 rfl (by rfl) (by decide) rfl rfl ?_
          refine wp_goto (tgt := 4) dX7_leastOf_38 (by decide) ?_
          exact wp_mask [true, true, true, true] h
set_option maxRecDepth 20000 in
set_option maxHeartbeats 2000000 in
theorem vc_Thoughts_leastOf {E : KE} {d : Nat} {x1 : Int32} {σ : Sg} {K : Int32 → Sg → Prop} (h : WP E shC mX7_leastOf (d + 1) 4 [some (.ref 52), some (.int x1), some (.int (-1 : Int32)), some (.int (nI 0))] [] σ (k_qi K)) : CallI E shC (d + 1) mX7_leastOf [.ref 52, .int x1] σ K := by
  refine wp_enter (Lo := [some (.ref 52), some (.int x1), none, none]) mp_X7_leastOf (Nat.le_of_ble_eq_true rfl) rfl ?_
  refine wp_iconst (v := (-1 : Int32)) dX7_leastOf_0 rfl ?_
  refine wp_istore_n (i := 2) (Lo' := [some (.ref 52), some (.int x1), some (.int (-1 : Int32)), none]) dX7_leastOf_1 rfl (by decide) rfl rfl ?_
  refine wp_iconst (v := nI 0) dX7_leastOf_2 rfl ?_
  refine wp_istore_n (i := 3) (Lo' := [some (.ref 52), some (.int x1), some (.int (-1 : Int32)), some (.int (nI 0))]) dX7_leastOf_3 rfl (by decide) rfl rfl ?_
  exact wp_mask [true, true, true, true] h
set_option maxRecDepth 20000 in
set_option maxHeartbeats 2000000 in
theorem vb_Thoughts_howManyBought_95 {E : KE} {d : Nat} {x4 : Int32} {x5 : Int32} {x6 : Int32} {x7 : Int32} {σ : Sg} {K : Int32 → Sg → Prop} (h : ((nI 28) ≤ x7 → K x6 σ) ∧ (¬ (nI 28) ≤ x7 → CallI E shC d mX7_leastOf [.ref 52, .int x4] σ (fun y2 σ1 => (y2 = (-1 : Int32) → K x6 σ1) ∧ (¬ y2 = (-1 : Int32) → vp_in y2 28 ∧ (((σ1 54 y2.toNatClampNeg) ≤ x5 → vp_in y2 28 ∧ (WP E shC mX7_howManyBought (d + 1) 95 [some (.ref 52), none, none, none, some (.int (x4 &&& (((nI 1) <<< (y2 &&& 31)) ^^^ (-1 : Int32)))), some (.int (x5 - (σ1 54 y2.toNatClampNeg))), some (.int (x6 + nI 1)), some (.int (x7 + nI 1)), none] [] σ1 (k_qi K))) ∧ (¬ (σ1 54 y2.toNatClampNeg) ≤ x5 → K x6 σ1)))))) : WP E shC mX7_howManyBought (d + 1) 95 [some (.ref 52), none, none, none, some (.int x4), some (.int x5), some (.int x6), some (.int x7), none] [] σ (k_qi K) := by
  refine wp_iload (i := 7) dX7_howManyBought_95 rfl ?_
  refine wp_bipush (v := nI 28) dX7_howManyBought_97 (by decide) ?_
  refine wp_icmpge (tgt := 163) dX7_howManyBought_99 (by decide) ⟨fun q => ?_, fun q => ?_⟩
  · replace h := h.1 q
    refine wp_iload (i := 6) dX7_howManyBought_163 rfl ?_
    exact wp_ireturn dX7_howManyBought_165 rfl ⟨_, rfl, h⟩
  · replace h := h.2 q
    refine wp_aload_n (i := 0) dX7_howManyBought_102 rfl rfl ?_
    refine wp_iload (i := 4) dX7_howManyBought_103 rfl ?_
    refine wp_callVI (vs := [.int x4]) (rest := []) dX7_howManyBought_105 mV_X7_leastOf lm_X7_55 hC_52 rfl rfl rfl (Nat.le_of_ble_eq_true rfl) (CallI.mono h (fun y2 σ1 h => ?_))
    refine wp_istore (i := 8) (Lo' := [some (.ref 52), none, none, none, some (.int x4), some (.int x5), some (.int x6), some (.int x7), some (.int y2)]) dX7_howManyBought_108 (by decide) rfl rfl ?_
    refine wp_iload (i := 8) dX7_howManyBought_110 rfl ?_
    refine wp_iconst (v := (-1 : Int32)) dX7_howManyBought_112 rfl ?_
    refine wp_icmpeq (tgt := 128) dX7_howManyBought_113 (by decide) ⟨fun q => ?_, fun q => ?_⟩
    · replace h := h.1 q
      refine wp_iload (i := 6) dX7_howManyBought_128 rfl ?_
      exact wp_ireturn dX7_howManyBought_130 rfl ⟨_, rfl, h⟩
    · replace h := h.2 q
      refine wp_aload_n (i := 0) dX7_howManyBought_116 rfl rfl ?_
      refine wp_getR (t := 54) dX7_howManyBought_117 lf_X7_15 hC_52 rfl ?_
      refine wp_iload (i := 8) dX7_howManyBought_120 rfl ?_
      refine wp_iald dX7_howManyBought_122 hC_54 ⟨h.1, ?_⟩
      replace h := h.2
      refine wp_iload (i := 5) dX7_howManyBought_123 rfl ?_
      refine wp_icmple (tgt := 131) dX7_howManyBought_125 (by decide) ⟨fun q => ?_, fun q => ?_⟩
      · replace h := h.1 q
        refine wp_iload (i := 4) dX7_howManyBought_131 rfl ?_
        refine wp_iconst (v := nI 1) dX7_howManyBought_133 rfl ?_
        refine wp_iload (i := 8) dX7_howManyBought_134 rfl ?_
        refine wp_ishl dX7_howManyBought_136 ?_
        refine wp_iconst (v := (-1 : Int32)) dX7_howManyBought_137 rfl ?_
        refine wp_ixor dX7_howManyBought_138 ?_
        refine wp_iand dX7_howManyBought_139 ?_
        refine wp_istore (i := 4) (Lo' := [some (.ref 52), none, none, none, some (.int (x4 &&& (((nI 1) <<< (y2 &&& 31)) ^^^ (-1 : Int32)))), some (.int x5), some (.int x6), some (.int x7), some (.int y2)]) dX7_howManyBought_140 (by decide) rfl rfl ?_
        refine wp_iload (i := 5) dX7_howManyBought_142 rfl ?_
        refine wp_aload_n (i := 0) dX7_howManyBought_144 rfl rfl ?_
        refine wp_getR (t := 54) dX7_howManyBought_145 lf_X7_15 hC_52 rfl ?_
        refine wp_iload (i := 8) dX7_howManyBought_148 rfl ?_
        refine wp_iald dX7_howManyBought_150 hC_54 ⟨h.1, ?_⟩
        replace h := h.2
        refine wp_isub dX7_howManyBought_151 ?_
        refine wp_istore (i := 5) (Lo' := [some (.ref 52), none, none, none, some (.int (x4 &&& (((nI 1) <<< (y2 &&& 31)) ^^^ (-1 : Int32)))), some (.int (x5 - (σ1 54 y2.toNatClampNeg))), some (.int x6), some (.int x7), some (.int y2)]) dX7_howManyBought_152 (by decide) rfl rfl ?_
        refine wp_iinc (i := 6) (v := x6 + nI 1) (Lo' := [some (.ref 52), none, none, none, some (.int (x4 &&& (((nI 1) <<< (y2 &&& 31)) ^^^ (-1 : Int32)))), some (.int (x5 - (σ1 54 y2.toNatClampNeg))), some (.int (x6 + nI 1)), some (.int x7), some (.int y2)]) dX7_howManyBought_154 rfl (by rfl) (by decide) rfl rfl ?_
        refine wp_iinc (i := 7) (v := x7 + nI 1) (Lo' := [some (.ref 52), none, none, none, some (.int (x4 &&& (((nI 1) <<< (y2 &&& 31)) ^^^ (-1 : Int32)))), some (.int (x5 - (σ1 54 y2.toNatClampNeg))), some (.int (x6 + nI 1)), some (.int (x7 + nI 1)), some (.int y2)]) dX7_howManyBought_157 rfl (by rfl) (by decide) rfl rfl ?_
        refine wp_goto (tgt := 95) dX7_howManyBought_160 (by decide) ?_
        exact wp_mask [true, false, false, false, true, true, true, true, false] h
      · replace h := h.2 q
        refine wp_iload (i := 6) dX7_howManyBought_128 rfl ?_
        exact wp_ireturn dX7_howManyBought_130 rfl ⟨_, rfl, h⟩
set_option maxRecDepth 20000 in
set_option maxHeartbeats 2000000 in
theorem vb_Thoughts_howManyBought_6 {E : KE} {d : Nat} {x2 : Int32} {x3 : Int32} {x4 : Int32} {x5 : Int32} {σ : Sg} {K : Int32 → Sg → Prop} (h : ((nI 28) ≤ x5 → vp_in x3 6 ∧ (WP E shC mX7_howManyBought (d + 1) 95 [some (.ref 52), none, none, none, some (.int x4), some (.int (σ 6 x3.toNatClampNeg)), some (.int (nI 0)), some (.int (nI 0)), none] [] σ (k_qi K))) ∧ (¬ (nI 28) ≤ x5 → CallI E shC d mX9_priceOf [.ref 1, .int x2, .int x5] σ (fun y2 σ1 => vp_in x5 28 ∧ (∀ σ3, σ3 = k_put σ1 54 (upd (σ1 54) x5.toNatClampNeg y2) → vp_in x5 28 ∧ (∀ σ5, σ5 = k_put σ3 55 (upd (σ3 55) x5.toNatClampNeg (nI 0)) → CallI E shC d mX1_timesOf [.ref 2, .int x2, .int x5] σ5 (fun y8 σ7 => (y8 ≤ 0 → WP E shC mX7_howManyBought (d + 1) 6 [some (.ref 52), some (.ref 1), some (.int x2), some (.int x3), some (.int x4), some (.int (x5 + nI 1)), none, none, none] [] σ7 (k_qi K)) ∧ (¬ y8 ≤ 0 → CallI E shC d mX1_timesOf [.ref 2, .int x3, .int x5] σ7 (fun y10 σ9 => ((nI 9) ≤ y10 → WP E shC mX7_howManyBought (d + 1) 6 [some (.ref 52), some (.ref 1), some (.int x2), some (.int x3), some (.int x4), some (.int (x5 + nI 1)), none, none, none] [] σ9 (k_qi K)) ∧ (¬ (nI 9) ≤ y10 → WP E shC mX7_howManyBought (d + 1) 6 [some (.ref 52), some (.ref 1), some (.int x2), some (.int x3), some (.int (x4 ||| ((nI 1) <<< (x5 &&& 31)))), some (.int (x5 + nI 1)), none, none, none] [] σ9 (k_qi K)))))))))) : WP E shC mX7_howManyBought (d + 1) 6 [some (.ref 52), some (.ref 1), some (.int x2), some (.int x3), some (.int x4), some (.int x5), none, none, none] [] σ (k_qi K) := by
  refine wp_iload (i := 5) dX7_howManyBought_6 rfl ?_
  refine wp_bipush (v := nI 28) dX7_howManyBought_8 (by decide) ?_
  refine wp_icmpge (tgt := 78) dX7_howManyBought_10 (by decide) ⟨fun q => ?_, fun q => ?_⟩
  · replace h := h.1 q
    refine wp_aload_n (i := 1) dX7_howManyBought_78 rfl rfl ?_
    refine wp_getR (t := 2) dX7_howManyBought_79 lf_X7_45 hC_1 rfl ?_
    refine wp_getR (t := 6) dX7_howManyBought_82 lf_X7_52 hC_2 rfl ?_
    refine wp_iload_n (i := 3) dX7_howManyBought_85 rfl rfl ?_
    refine wp_iald dX7_howManyBought_86 hC_6 ⟨h.1, ?_⟩
    replace h := h.2
    refine wp_istore (i := 5) (Lo' := [some (.ref 52), some (.ref 1), some (.int x2), some (.int x3), some (.int x4), some (.int (σ 6 x3.toNatClampNeg)), none, none, none]) dX7_howManyBought_87 (by decide) rfl rfl ?_
    refine wp_iconst (v := nI 0) dX7_howManyBought_89 rfl ?_
    refine wp_istore (i := 6) (Lo' := [some (.ref 52), some (.ref 1), some (.int x2), some (.int x3), some (.int x4), some (.int (σ 6 x3.toNatClampNeg)), some (.int (nI 0)), none, none]) dX7_howManyBought_90 (by decide) rfl rfl ?_
    refine wp_iconst (v := nI 0) dX7_howManyBought_92 rfl ?_
    refine wp_istore (i := 7) (Lo' := [some (.ref 52), some (.ref 1), some (.int x2), some (.int x3), some (.int x4), some (.int (σ 6 x3.toNatClampNeg)), some (.int (nI 0)), some (.int (nI 0)), none]) dX7_howManyBought_93 (by decide) rfl rfl ?_
    exact wp_mask [true, false, false, false, true, true, true, true, false] h
  · replace h := h.2 q
    refine wp_aload_n (i := 0) dX7_howManyBought_13 rfl rfl ?_
    refine wp_getR (t := 54) dX7_howManyBought_14 lf_X7_15 hC_52 rfl ?_
    refine wp_iload (i := 5) dX7_howManyBought_17 rfl ?_
    refine wp_aload_n (i := 1) dX7_howManyBought_19 rfl rfl ?_
    refine wp_iload_n (i := 2) dX7_howManyBought_20 rfl rfl ?_
    refine wp_iload (i := 5) dX7_howManyBought_21 rfl ?_
    refine wp_callVI (vs := [.int x2, .int x5]) (rest := [.int x5, .ref 54]) dX7_howManyBought_23 mV_X9_priceOf lm_X7_39 hC_1 rfl rfl rfl (Nat.le_of_ble_eq_true rfl) (CallI.mono h (fun y2 σ1 h => ?_))
    refine wp_iast dX7_howManyBought_26 hC_54 ⟨h.1, ?_⟩
    refine wp_nm (fun σ3 e4 => ?_)
    replace h := h.2 σ3 e4
    refine wp_aload_n (i := 0) dX7_howManyBought_27 rfl rfl ?_
    refine wp_getR (t := 55) dX7_howManyBought_28 lf_X7_18 hC_52 rfl ?_
    refine wp_iload (i := 5) dX7_howManyBought_31 rfl ?_
    refine wp_iconst (v := nI 0) dX7_howManyBought_33 rfl ?_
    refine wp_iast dX7_howManyBought_34 hC_55 ⟨h.1, ?_⟩
    refine wp_nm (fun σ5 e6 => ?_)
    replace h := h.2 σ5 e6
    refine wp_aload_n (i := 1) dX7_howManyBought_35 rfl rfl ?_
    refine wp_getR (t := 2) dX7_howManyBought_36 lf_X7_45 hC_1 rfl ?_
    refine wp_iload_n (i := 2) dX7_howManyBought_39 rfl rfl ?_
    refine wp_iload (i := 5) dX7_howManyBought_40 rfl ?_
    refine wp_callVI (vs := [.int x2, .int x5]) (rest := []) dX7_howManyBought_42 mV_X1_timesOf lm_X7_49 hC_2 rfl rfl rfl (Nat.le_of_ble_eq_true rfl) (CallI.mono h (fun y8 σ7 h => ?_))
    refine wp_ifle (tgt := 72) dX7_howManyBought_45 (by decide) ⟨fun q => ?_, fun q => ?_⟩
    · replace h := h.1 q
      refine wp_iinc (i := 5) (v := x5 + nI 1) (Lo' := [some (.ref 52), some (.ref 1), some (.int x2), some (.int x3), some (.int x4), some (.int (x5 + nI 1)), none, none, none]) dX7_howManyBought_72 rfl (by rfl) (by decide) rfl rfl ?_
      refine wp_goto (tgt := 6) dX7_howManyBought_75 (by decide) ?_
      exact wp_mask [true, true, true, true, true, true, false, false, false] h
    · replace h := h.2 q
      refine wp_aload_n (i := 1) dX7_howManyBought_48 rfl rfl ?_
      refine wp_getR (t := 2) dX7_howManyBought_49 lf_X7_45 hC_1 rfl ?_
      refine wp_iload_n (i := 3) dX7_howManyBought_52 rfl rfl ?_
      refine wp_iload (i := 5) dX7_howManyBought_53 rfl ?_
      refine wp_callVI (vs := [.int x3, .int x5]) (rest := []) dX7_howManyBought_55 mV_X1_timesOf lm_X7_49 hC_2 rfl rfl rfl (Nat.le_of_ble_eq_true rfl) (CallI.mono h (fun y10 σ9 h => ?_))
      refine wp_bipush (v := nI 9) dX7_howManyBought_58 (by decide) ?_
      refine wp_icmpge (tgt := 72) dX7_howManyBought_60 (by decide) ⟨fun q => ?_, fun q => ?_⟩
      · replace h := h.1 q
        refine wp_iinc (i := 5) (v := x5 + nI 1) (Lo' := [some (.ref 52), some (.ref 1), some (.int x2), some (.int x3), some (.int x4), some (.int (x5 + nI 1)), none, none, none]) dX7_howManyBought_72 rfl (by rfl) (by decide) rfl rfl ?_
        refine wp_goto (tgt := 6) dX7_howManyBought_75 (by decide) ?_
        exact wp_mask [true, true, true, true, true, true, false, false, false] h
      · replace h := h.2 q
        refine wp_iload (i := 4) dX7_howManyBought_63 rfl ?_
        refine wp_iconst (v := nI 1) dX7_howManyBought_65 rfl ?_
        refine wp_iload (i := 5) dX7_howManyBought_66 rfl ?_
        refine wp_ishl dX7_howManyBought_68 ?_
        refine wp_ior dX7_howManyBought_69 ?_
        refine wp_istore (i := 4) (Lo' := [some (.ref 52), some (.ref 1), some (.int x2), some (.int x3), some (.int (x4 ||| ((nI 1) <<< (x5 &&& 31)))), some (.int x5), none, none, none]) dX7_howManyBought_70 (by decide) rfl rfl ?_
        refine wp_iinc (i := 5) (v := x5 + nI 1) (Lo' := [some (.ref 52), some (.ref 1), some (.int x2), some (.int x3), some (.int (x4 ||| ((nI 1) <<< (x5 &&& 31)))), some (.int (x5 + nI 1)), none, none, none]) dX7_howManyBought_72 rfl (by rfl) (by decide) rfl rfl ?_
        refine wp_goto (tgt := 6) dX7_howManyBought_75 (by decide) ?_
        exact wp_mask [true, true, true, true, true, true, false, false, false] h
set_option maxRecDepth 20000 in
set_option maxHeartbeats 2000000 in
theorem vc_Thoughts_howManyBought {E : KE} {d : Nat} {x2 : Int32} {x3 : Int32} {σ : Sg} {K : Int32 → Sg → Prop} (h : WP E shC mX7_howManyBought (d + 1) 6 [some (.ref 52), some (.ref 1), some (.int x2), some (.int x3), some (.int (nI 0)), some (.int (nI 0)), none, none, none] [] σ (k_qi K)) : CallI E shC (d + 1) mX7_howManyBought [.ref 52, .ref 1, .int x2, .int x3] σ K := by
  refine wp_enter (Lo := [some (.ref 52), some (.ref 1), some (.int x2), some (.int x3), none, none, none, none, none]) mp_X7_howManyBought (Nat.le_of_ble_eq_true rfl) rfl ?_
  refine wp_iconst (v := nI 0) dX7_howManyBought_0 rfl ?_
  refine wp_istore (i := 4) (Lo' := [some (.ref 52), some (.ref 1), some (.int x2), some (.int x3), some (.int (nI 0)), none, none, none, none]) dX7_howManyBought_1 (by decide) rfl rfl ?_
  refine wp_iconst (v := nI 0) dX7_howManyBought_3 rfl ?_
  refine wp_istore (i := 5) (Lo' := [some (.ref 52), some (.ref 1), some (.int x2), some (.int x3), some (.int (nI 0)), some (.int (nI 0)), none, none, none]) dX7_howManyBought_4 (by decide) rfl rfl ?_
  exact wp_mask [true, true, true, true, true, true, false, false, false] h
set_option maxRecDepth 20000 in
set_option maxHeartbeats 2000000 in
theorem vc_SD_buys {E : KE} {d : Nat} {x1 : Int32} {x2 : Int32} {σ : Sg} {K : Int32 → Sg → Prop} (h : CallI E shC d mX1_areTwo [.ref 2, .int x1, .int x2] σ (fun y2 σ1 => (¬ y2 = 0 → CallI E shC d mX7_howManyBought [.ref 52, .ref 1, .int x1, .int x2] σ1 (fun y4 σ3 => K y4 σ3)) ∧ (y2 = 0 → CallI E shC d mX10_error [.ref 0, .int (nI 1)] σ1 (fun y6 σ5 => K y6 σ5)))) : CallI E shC (d + 1) mX10_buys [.ref 0, .int x1, .int x2] σ K := by
  refine wp_enter (Lo := [some (.ref 0), some (.int x1), some (.int x2)]) mp_X10_buys (Nat.le_of_ble_eq_true rfl) rfl ?_
  refine wp_aload_n (i := 0) dX10_buys_0 rfl rfl ?_
  refine wp_getR (t := 1) dX10_buys_1 lf_X10_10 hC_0 rfl ?_
  refine wp_getR (t := 2) dX10_buys_4 lf_X10_66 hC_1 rfl ?_
  refine wp_iload_n (i := 1) dX10_buys_7 rfl rfl ?_
  refine wp_iload_n (i := 2) dX10_buys_8 rfl rfl ?_
  refine wp_callVI (vs := [.int x1, .int x2]) (rest := []) dX10_buys_9 mV_X1_areTwo lm_X10_128 hC_2 rfl rfl rfl (Nat.le_of_ble_eq_true rfl) (CallI.mono h (fun y2 σ1 h => ?_))
  refine wp_ifne (tgt := 21) dX10_buys_12 (by decide) ⟨fun q => ?_, fun q => ?_⟩
  · replace h := h.1 q
    refine wp_aload_n (i := 0) dX10_buys_21 rfl rfl ?_
    refine wp_getR (t := 52) dX10_buys_22 lf_X10_29 hC_0 rfl ?_
    refine wp_aload_n (i := 0) dX10_buys_25 rfl rfl ?_
    refine wp_getR (t := 1) dX10_buys_26 lf_X10_10 hC_0 rfl ?_
    refine wp_iload_n (i := 1) dX10_buys_29 rfl rfl ?_
    refine wp_iload_n (i := 2) dX10_buys_30 rfl rfl ?_
    refine wp_callVI (vs := [.ref 1, .int x1, .int x2]) (rest := []) dX10_buys_31 mV_X7_howManyBought lm_X10_237 hC_52 rfl rfl rfl (Nat.le_of_ble_eq_true rfl) (CallI.mono h (fun y4 σ3 h => ?_))
    exact wp_ireturn dX10_buys_34 rfl ⟨_, rfl, h⟩
  · replace h := h.2 q
    refine wp_aload_n (i := 0) dX10_buys_15 rfl rfl ?_
    refine wp_iconst (v := nI 1) dX10_buys_16 rfl ?_
    refine wp_callVI (vs := [.int (nI 1)]) (rest := []) dX10_buys_17 mV_X10_error lm_X10_62 hC_0 rfl rfl rfl (Nat.le_of_ble_eq_true rfl) (CallI.mono h (fun y6 σ5 h => ?_))
    exact wp_ireturn dX10_buys_20 rfl ⟨_, rfl, h⟩
set_option maxRecDepth 20000 in
set_option maxHeartbeats 2000000 in
theorem vb_People_howManyDays_4 {E : KE} {d : Nat} {x1 : Int32} {x2 : Int32} {x3 : Int32} {σ : Sg} {K : Int32 → Sg → Prop} (h : ((nI 28) ≤ x3 → K x2 σ) ∧ (¬ (nI 28) ≤ x3 → CallI E shC d mX1_timesOf [.ref 2, .int x1, .int x3] σ (fun y2 σ1 => (y2 ≤ 0 → WP E shC mX1_howManyDays (d + 1) 4 [some (.ref 2), some (.int x1), some (.int x2), some (.int (x3 + nI 1))] [] σ1 (k_qi K)) ∧ (¬ y2 ≤ 0 → WP E shC mX1_howManyDays (d + 1) 4 [some (.ref 2), some (.int x1), some (.int (x2 + nI 1)), some (.int (x3 + nI 1))] [] σ1 (k_qi K))))) : WP E shC mX1_howManyDays (d + 1) 4 [some (.ref 2), some (.int x1), some (.int x2), some (.int x3)] [] σ (k_qi K) := by
  refine wp_iload_n (i := 3) dX1_howManyDays_4 rfl rfl ?_
  refine wp_bipush (v := nI 28) dX1_howManyDays_5 (by decide) ?_
  refine wp_icmpge (tgt := 28) dX1_howManyDays_7 (by decide) ⟨fun q => ?_, fun q => ?_⟩
  · replace h := h.1 q
    refine wp_iload_n (i := 2) dX1_howManyDays_28 rfl rfl ?_
    exact wp_ireturn dX1_howManyDays_29 rfl ⟨_, rfl, h⟩
  · replace h := h.2 q
    refine wp_aload_n (i := 0) dX1_howManyDays_10 rfl rfl ?_
    refine wp_iload_n (i := 1) dX1_howManyDays_11 rfl rfl ?_
    refine wp_iload_n (i := 3) dX1_howManyDays_12 rfl rfl ?_
    refine wp_callVI (vs := [.int x1, .int x3]) (rest := []) dX1_howManyDays_13 mV_X1_timesOf lm_X1_43 hC_2 rfl rfl rfl (Nat.le_of_ble_eq_true rfl) (CallI.mono h (fun y2 σ1 h => ?_))
    refine wp_ifle (tgt := 22) dX1_howManyDays_16 (by decide) ⟨fun q => ?_, fun q => ?_⟩
    · replace h := h.1 q
      refine wp_iinc (i := 3) (v := x3 + nI 1) (Lo' := [some (.ref 2), some (.int x1), some (.int x2), some (.int (x3 + nI 1))]) dX1_howManyDays_22 rfl (by rfl) (by decide) rfl rfl ?_
      refine wp_goto (tgt := 4) dX1_howManyDays_25 (by decide) ?_
      exact wp_mask [true, true, true, true] h
    · replace h := h.2 q
      refine wp_iinc (i := 2) (v := x2 + nI 1) (Lo' := [some (.ref 2), some (.int x1), some (.int (x2 + nI 1)), some (.int x3)]) dX1_howManyDays_19 rfl (by rfl) (by decide) rfl rfl ?_
      refine wp_iinc (i := 3) (v := x3 + nI 1) (Lo' := [some (.ref 2), some (.int x1), some (.int (x2 + nI 1)), some (.int (x3 + nI 1))]) dX1_howManyDays_22 rfl (by rfl) (by decide) rfl rfl ?_
      refine wp_goto (tgt := 4) dX1_howManyDays_25 (by decide) ?_
      exact wp_mask [true, true, true, true] h
set_option maxRecDepth 20000 in
set_option maxHeartbeats 2000000 in
theorem vc_People_howManyDays {E : KE} {d : Nat} {x1 : Int32} {σ : Sg} {K : Int32 → Sg → Prop} (h : WP E shC mX1_howManyDays (d + 1) 4 [some (.ref 2), some (.int x1), some (.int (nI 0)), some (.int (nI 0))] [] σ (k_qi K)) : CallI E shC (d + 1) mX1_howManyDays [.ref 2, .int x1] σ K := by
  refine wp_enter (Lo := [some (.ref 2), some (.int x1), none, none]) mp_X1_howManyDays (Nat.le_of_ble_eq_true rfl) rfl ?_
  refine wp_iconst (v := nI 0) dX1_howManyDays_0 rfl ?_
  refine wp_istore_n (i := 2) (Lo' := [some (.ref 2), some (.int x1), some (.int (nI 0)), none]) dX1_howManyDays_1 rfl (by decide) rfl rfl ?_
  refine wp_iconst (v := nI 0) dX1_howManyDays_2 rfl ?_
  refine wp_istore_n (i := 3) (Lo' := [some (.ref 2), some (.int x1), some (.int (nI 0)), some (.int (nI 0))]) dX1_howManyDays_3 rfl (by decide) rfl rfl ?_
  exact wp_mask [true, true, true, true] h
set_option maxRecDepth 20000 in
set_option maxHeartbeats 2000000 in
theorem vc_People_isUpIfHad {E : KE} {d : Nat} {x1 : Int32} {x2 : Int32} {x3 : Int32} {σ : Sg} {K : Int32 → Sg → Prop} (h : vp_in x1 6 ∧ (vp_in x1 6 ∧ (CallI E shC d mX0_lives [.int (σ 3 x1.toNatClampNeg), .int (σ 4 x1.toNatClampNeg), .int x3, .int (x2 - x2 / (nI 7) * (nI 7))] σ (fun y2 σ1 => (y2 ≤ 0 → K (nI 0) σ1) ∧ (¬ y2 ≤ 0 → K (nI 1) σ1))))) : CallI E shC (d + 1) mX1_isUpIfHad [.ref 2, .int x1, .int x2, .int x3] σ K := by
  refine wp_enter (Lo := [some (.ref 2), some (.int x1), some (.int x2), some (.int x3)]) mp_X1_isUpIfHad (Nat.le_of_ble_eq_true rfl) rfl ?_
  refine wp_aload_n (i := 0) dX1_isUpIfHad_0 rfl rfl ?_
  refine wp_getR (t := 3) dX1_isUpIfHad_1 lf_X1_9 hC_2 rfl ?_
  refine wp_iload_n (i := 1) dX1_isUpIfHad_4 rfl rfl ?_
  refine wp_iald dX1_isUpIfHad_5 hC_3 ⟨h.1, ?_⟩
  replace h := h.2
  refine wp_aload_n (i := 0) dX1_isUpIfHad_6 rfl rfl ?_
  refine wp_getR (t := 4) dX1_isUpIfHad_7 lf_X1_15 hC_2 rfl ?_
  refine wp_iload_n (i := 1) dX1_isUpIfHad_10 rfl rfl ?_
  refine wp_iald dX1_isUpIfHad_11 hC_4 ⟨h.1, ?_⟩
  replace h := h.2
  refine wp_iload_n (i := 3) dX1_isUpIfHad_12 rfl rfl ?_
  refine wp_iload_n (i := 2) dX1_isUpIfHad_13 rfl rfl ?_
  refine wp_bipush (v := nI 7) dX1_isUpIfHad_14 (by decide) ?_
  refine wp_irem dX1_isUpIfHad_16 ⟨by decide, ?_⟩
  refine wp_callSI (vs := [.int (σ 3 x1.toNatClampNeg), .int (σ 4 x1.toNatClampNeg), .int x3, .int (x2 - x2 / (nI 7) * (nI 7))]) (rest := []) dX1_isUpIfHad_17 mS_X0_lives lm_X1_47 rfl rfl (Nat.le_of_ble_eq_true rfl) (CallI.mono h (fun y2 σ1 h => ?_))
  refine wp_ifle (tgt := 27) dX1_isUpIfHad_20 (by decide) ⟨fun q => ?_, fun q => ?_⟩
  · replace h := h.1 q
    refine wp_iconst (v := nI 0) dX1_isUpIfHad_27 rfl ?_
    exact wp_zreturn dX1_isUpIfHad_28 rfl ⟨rfl, _, rfl, h⟩
  · replace h := h.2 q
    refine wp_iconst (v := nI 1) dX1_isUpIfHad_23 rfl ?_
    refine wp_goto (tgt := 28) dX1_isUpIfHad_24 (by decide) ?_
    exact wp_zreturn dX1_isUpIfHad_28 rfl ⟨rfl, _, rfl, h⟩
set_option maxRecDepth 20000 in
set_option maxHeartbeats 2000000 in
theorem vc_Promises_isOf {E : KE} {d : Nat} {x1 : Int32} {x2 : Int32} {σ : Sg} {K : Int32 → Sg → Prop} (h : vp_in x1 8 ∧ (((σ 9 x1.toNatClampNeg) = x2 → K (nI 1) σ) ∧ (¬ (σ 9 x1.toNatClampNeg) = x2 → vp_in x1 8 ∧ ((¬ (σ 10 x1.toNatClampNeg) = x2 → K (nI 0) σ) ∧ ((σ 10 x1.toNatClampNeg) = x2 → K (nI 1) σ))))) : CallI E shC d mX2_isOf [.ref 8, .int x1, .int x2] σ K := by
  refine wp_enter (Lo := [some (.ref 8), some (.int x1), some (.int x2)]) mp_X2_isOf (Nat.le_of_ble_eq_true rfl) rfl ?_
  refine wp_aload_n (i := 0) dX2_isOf_0 rfl rfl ?_
  refine wp_getR (t := 9) dX2_isOf_1 lf_X2_9 hC_8 rfl ?_
  refine wp_iload_n (i := 1) dX2_isOf_4 rfl rfl ?_
  refine wp_iald dX2_isOf_5 hC_9 ⟨h.1, ?_⟩
  replace h := h.2
  refine wp_iload_n (i := 2) dX2_isOf_6 rfl rfl ?_
  refine wp_icmpeq (tgt := 20) dX2_isOf_7 (by decide) ⟨fun q => ?_, fun q => ?_⟩
  · replace h := h.1 q
    refine wp_iconst (v := nI 1) dX2_isOf_20 rfl ?_
    refine wp_goto (tgt := 25) dX2_isOf_21 (by decide) ?_
    exact wp_zreturn dX2_isOf_25 rfl ⟨rfl, _, rfl, h⟩
  · replace h := h.2 q
    refine wp_aload_n (i := 0) dX2_isOf_10 rfl rfl ?_
    refine wp_getR (t := 10) dX2_isOf_11 lf_X2_15 hC_8 rfl ?_
    refine wp_iload_n (i := 1) dX2_isOf_14 rfl rfl ?_
    refine wp_iald dX2_isOf_15 hC_10 ⟨h.1, ?_⟩
    replace h := h.2
    refine wp_iload_n (i := 2) dX2_isOf_16 rfl rfl ?_
    refine wp_icmpne (tgt := 24) dX2_isOf_17 (by decide) ⟨fun q => ?_, fun q => ?_⟩
    · replace h := h.1 q
      refine wp_iconst (v := nI 0) dX2_isOf_24 rfl ?_
      exact wp_zreturn dX2_isOf_25 rfl ⟨rfl, _, rfl, h⟩
    · replace h := h.2 q
      refine wp_iconst (v := nI 1) dX2_isOf_20 rfl ?_
      refine wp_goto (tgt := 25) dX2_isOf_21 (by decide) ?_
      exact wp_zreturn dX2_isOf_25 rfl ⟨rfl, _, rfl, h⟩
set_option maxRecDepth 20000 in
set_option maxHeartbeats 2000000 in
theorem vb_Thoughts_harmOf_39 {E : KE} {d : Nat} {x1 : Int32} {x2 : Int32} {x5 : Int32} {x6 : Int32} {σ : Sg} {K : Int32 → Sg → Prop} (h : ((σ 8 3) ≤ x6 → K x5 σ) ∧ (¬ (σ 8 3) ≤ x6 → vp_in x6 8 ∧ ((¬ (σ 11 x6.toNatClampNeg) = x2 → ((nI 0) = 0 → WP E shC mX7_harmOf (d + 1) 39 [some (.ref 1), some (.int x1), some (.int x2), none, some (.ref 8), some (.int x5), some (.int (x6 + nI 1)), none] [] σ (k_qi K)) ∧ (¬ (nI 0) = 0 → CallI E shC d mX2_isKept [.ref 8, .int x6, .ref 2] σ (fun y2 σ1 => (y2 = 0 → WP E shC mX7_harmOf (d + 1) 39 [some (.ref 1), some (.int x1), some (.int x2), none, some (.ref 8), some (.int x5), some (.int (x6 + nI 1)), none] [] σ1 (k_qi K)) ∧ (¬ y2 = 0 → WP E shC mX7_harmOf (d + 1) 39 [some (.ref 1), some (.int x1), some (.int x2), none, some (.ref 8), some (.int (x5 + nI 1)), some (.int (x6 + nI 1)), none] [] σ1 (k_qi K))))) ∧ ((σ 11 x6.toNatClampNeg) = x2 → CallI E shC d mX2_isOf [.ref 8, .int x6, .int x1] σ (fun y4 σ3 => (y4 = 0 → ((nI 0) = 0 → WP E shC mX7_harmOf (d + 1) 39 [some (.ref 1), some (.int x1), some (.int x2), none, some (.ref 8), some (.int x5), some (.int (x6 + nI 1)), none] [] σ3 (k_qi K)) ∧ (¬ (nI 0) = 0 → CallI E shC d mX2_isKept [.ref 8, .int x6, .ref 2] σ3 (fun y6 σ5 => (y6 = 0 → WP E shC mX7_harmOf (d + 1) 39 [some (.ref 1), some (.int x1), some (.int x2), none, some (.ref 8), some (.int x5), some (.int (x6 + nI 1)), none] [] σ5 (k_qi K)) ∧ (¬ y6 = 0 → WP E shC mX7_harmOf (d + 1) 39 [some (.ref 1), some (.int x1), some (.int x2), none, some (.ref 8), some (.int (x5 + nI 1)), some (.int (x6 + nI 1)), none] [] σ5 (k_qi K))))) ∧ (¬ y4 = 0 → ((nI 1) = 0 → WP E shC mX7_harmOf (d + 1) 39 [some (.ref 1), some (.int x1), some (.int x2), none, some (.ref 8), some (.int x5), some (.int (x6 + nI 1)), none] [] σ3 (k_qi K)) ∧ (¬ (nI 1) = 0 → CallI E shC d mX2_isKept [.ref 8, .int x6, .ref 2] σ3 (fun y8 σ7 => (y8 = 0 → WP E shC mX7_harmOf (d + 1) 39 [some (.ref 1), some (.int x1), some (.int x2), none, some (.ref 8), some (.int x5), some (.int (x6 + nI 1)), none] [] σ7 (k_qi K)) ∧ (¬ y8 = 0 → WP E shC mX7_harmOf (d + 1) 39 [some (.ref 1), some (.int x1), some (.int x2), none, some (.ref 8), some (.int (x5 + nI 1)), some (.int (x6 + nI 1)), none] [] σ7 (k_qi K)))))))))) : WP E shC mX7_harmOf (d + 1) 39 [some (.ref 1), some (.int x1), some (.int x2), none, some (.ref 8), some (.int x5), some (.int x6), none] [] σ (k_qi K) := by
  refine wp_iload (i := 6) dX7_harmOf_39 rfl ?_
  refine wp_aload (i := 4) dX7_harmOf_41 rfl ?_
  refine wp_getI dX7_harmOf_43 lf_X7_70 hC_8 rfl ?_
  refine wp_icmpge (tgt := 107) dX7_harmOf_46 (by decide) ⟨fun q => ?_, fun q => ?_⟩
  · replace h := h.1 q
    refine wp_iload (i := 5) dX7_harmOf_107 rfl ?_
    exact wp_ireturn dX7_harmOf_109 rfl ⟨_, rfl, h⟩
  · replace h := h.2 q
    refine wp_aload (i := 4) dX7_harmOf_49 rfl ?_
    refine wp_getR (t := 11) dX7_harmOf_51 lf_X7_73 hC_8 rfl ?_
    refine wp_iload (i := 6) dX7_harmOf_54 rfl ?_
    refine wp_iald dX7_harmOf_56 hC_11 ⟨h.1, ?_⟩
    replace h := h.2
    refine wp_iload_n (i := 2) dX7_harmOf_57 rfl rfl ?_
    refine wp_icmpne (tgt := 76) dX7_harmOf_58 (by decide) ⟨fun q => ?_, fun q => ?_⟩
    · replace h := h.1 q
      refine wp_iconst (v := nI 0) dX7_harmOf_76 rfl ?_
      refine wp_istore (i := 7) (Lo' := [some (.ref 1), some (.int x1), some (.int x2), none, some (.ref 8), some (.int x5), some (.int x6), some (.int (nI 0))]) dX7_harmOf_77 (by decide) rfl rfl ?_
      refine wp_iload (i := 7) dX7_harmOf_79 rfl ?_
      refine wp_ifeq (tgt := 101) dX7_harmOf_81 (by decide) ⟨fun q => ?_, fun q => ?_⟩
      · replace h := h.1 q
        refine wp_iinc (i := 6) (v := x6 + nI 1) (Lo' := [some (.ref 1), some (.int x1), some (.int x2), none, some (.ref 8), some (.int x5), some (.int (x6 + nI 1)), some (.int (nI 0))]) dX7_harmOf_101 rfl (by rfl) (by decide) rfl rfl ?_
        refine wp_goto (tgt := 39) dX7_harmOf_104 (by decide) ?_
        exact wp_mask [true, true, true, false, true, true, true, false] h
      · replace h := h.2 q
        refine wp_aload (i := 4) dX7_harmOf_84 rfl ?_
        refine wp_iload (i := 6) dX7_harmOf_86 rfl ?_
        refine wp_aload_n (i := 0) dX7_harmOf_88 rfl rfl ?_
        refine wp_getR (t := 2) dX7_harmOf_89 lf_X7_45 hC_1 rfl ?_
        refine wp_callVI (vs := [.int x6, .ref 2]) (rest := []) dX7_harmOf_92 mV_X2_isKept lm_X7_80 hC_8 rfl rfl rfl (Nat.le_of_ble_eq_true rfl) (CallI.mono h (fun y2 σ1 h => ?_))
        refine wp_ifeq (tgt := 101) dX7_harmOf_95 (by decide) ⟨fun q => ?_, fun q => ?_⟩
        · replace h := h.1 q
          refine wp_iinc (i := 6) (v := x6 + nI 1) (Lo' := [some (.ref 1), some (.int x1), some (.int x2), none, some (.ref 8), some (.int x5), some (.int (x6 + nI 1)), some (.int (nI 0))]) dX7_harmOf_101 rfl (by rfl) (by decide) rfl rfl ?_
          refine wp_goto (tgt := 39) dX7_harmOf_104 (by decide) ?_
          exact wp_mask [true, true, true, false, true, true, true, false] h
        · replace h := h.2 q
          refine wp_iinc (i := 5) (v := x5 + nI 1) (Lo' := [some (.ref 1), some (.int x1), some (.int x2), none, some (.ref 8), some (.int (x5 + nI 1)), some (.int x6), some (.int (nI 0))]) dX7_harmOf_98 rfl (by rfl) (by decide) rfl rfl ?_
          refine wp_iinc (i := 6) (v := x6 + nI 1) (Lo' := [some (.ref 1), some (.int x1), some (.int x2), none, some (.ref 8), some (.int (x5 + nI 1)), some (.int (x6 + nI 1)), some (.int (nI 0))]) dX7_harmOf_101 rfl (by rfl) (by decide) rfl rfl ?_
          refine wp_goto (tgt := 39) dX7_harmOf_104 (by decide) ?_
          exact wp_mask [true, true, true, false, true, true, true, false] h
    · replace h := h.2 q
      refine wp_aload (i := 4) dX7_harmOf_61 rfl ?_
      refine wp_iload (i := 6) dX7_harmOf_63 rfl ?_
      refine wp_iload_n (i := 1) dX7_harmOf_65 rfl rfl ?_
      refine wp_callVI (vs := [.int x6, .int x1]) (rest := []) dX7_harmOf_66 mV_X2_isOf lm_X7_76 hC_8 rfl rfl rfl (Nat.le_of_ble_eq_true rfl) (CallI.mono h (fun y4 σ3 h => ?_))
      refine wp_ifeq (tgt := 76) dX7_harmOf_69 (by decide) ⟨fun q => ?_, fun q => ?_⟩
      · replace h := h.1 q
        refine wp_iconst (v := nI 0) dX7_harmOf_76 rfl ?_
        refine wp_istore (i := 7) (Lo' := [some (.ref 1), some (.int x1), some (.int x2), none, some (.ref 8), some (.int x5), some (.int x6), some (.int (nI 0))]) dX7_harmOf_77 (by decide) rfl rfl ?_
        refine wp_iload (i := 7) dX7_harmOf_79 rfl ?_
        refine wp_ifeq (tgt := 101) dX7_harmOf_81 (by decide) ⟨fun q => ?_, fun q => ?_⟩
        · replace h := h.1 q
          refine wp_iinc (i := 6) (v := x6 + nI 1) (Lo' := [some (.ref 1), some (.int x1), some (.int x2), none, some (.ref 8), some (.int x5), some (.int (x6 + nI 1)), some (.int (nI 0))]) dX7_harmOf_101 rfl (by rfl) (by decide) rfl rfl ?_
          refine wp_goto (tgt := 39) dX7_harmOf_104 (by decide) ?_
          exact wp_mask [true, true, true, false, true, true, true, false] h
        · replace h := h.2 q
          refine wp_aload (i := 4) dX7_harmOf_84 rfl ?_
          refine wp_iload (i := 6) dX7_harmOf_86 rfl ?_
          refine wp_aload_n (i := 0) dX7_harmOf_88 rfl rfl ?_
          refine wp_getR (t := 2) dX7_harmOf_89 lf_X7_45 hC_1 rfl ?_
          refine wp_callVI (vs := [.int x6, .ref 2]) (rest := []) dX7_harmOf_92 mV_X2_isKept lm_X7_80 hC_8 rfl rfl rfl (Nat.le_of_ble_eq_true rfl) (CallI.mono h (fun y6 σ5 h => ?_))
          refine wp_ifeq (tgt := 101) dX7_harmOf_95 (by decide) ⟨fun q => ?_, fun q => ?_⟩
          · replace h := h.1 q
            refine wp_iinc (i := 6) (v := x6 + nI 1) (Lo' := [some (.ref 1), some (.int x1), some (.int x2), none, some (.ref 8), some (.int x5), some (.int (x6 + nI 1)), some (.int (nI 0))]) dX7_harmOf_101 rfl (by rfl) (by decide) rfl rfl ?_
            refine wp_goto (tgt := 39) dX7_harmOf_104 (by decide) ?_
            exact wp_mask [true, true, true, false, true, true, true, false] h
          · replace h := h.2 q
            refine wp_iinc (i := 5) (v := x5 + nI 1) (Lo' := [some (.ref 1), some (.int x1), some (.int x2), none, some (.ref 8), some (.int (x5 + nI 1)), some (.int x6), some (.int (nI 0))]) dX7_harmOf_98 rfl (by rfl) (by decide) rfl rfl ?_
            refine wp_iinc (i := 6) (v := x6 + nI 1) (Lo' := [some (.ref 1), some (.int x1), some (.int x2), none, some (.ref 8), some (.int (x5 + nI 1)), some (.int (x6 + nI 1)), some (.int (nI 0))]) dX7_harmOf_101 rfl (by rfl) (by decide) rfl rfl ?_
            refine wp_goto (tgt := 39) dX7_harmOf_104 (by decide) ?_
            exact wp_mask [true, true, true, false, true, true, true, false] h
      · replace h := h.2 q
        refine wp_iconst (v := nI 1) dX7_harmOf_72 rfl ?_
        refine wp_goto (tgt := 77) dX7_harmOf_73 (by decide) ?_
        refine wp_istore (i := 7) (Lo' := [some (.ref 1), some (.int x1), some (.int x2), none, some (.ref 8), some (.int x5), some (.int x6), some (.int (nI 1))]) dX7_harmOf_77 (by decide) rfl rfl ?_
        refine wp_iload (i := 7) dX7_harmOf_79 rfl ?_
        refine wp_ifeq (tgt := 101) dX7_harmOf_81 (by decide) ⟨fun q => ?_, fun q => ?_⟩
        · replace h := h.1 q
          refine wp_iinc (i := 6) (v := x6 + nI 1) (Lo' := [some (.ref 1), some (.int x1), some (.int x2), none, some (.ref 8), some (.int x5), some (.int (x6 + nI 1)), some (.int (nI 1))]) dX7_harmOf_101 rfl (by rfl) (by decide) rfl rfl ?_
          refine wp_goto (tgt := 39) dX7_harmOf_104 (by decide) ?_
          exact wp_mask [true, true, true, false, true, true, true, false] h
        · replace h := h.2 q
          refine wp_aload (i := 4) dX7_harmOf_84 rfl ?_
          refine wp_iload (i := 6) dX7_harmOf_86 rfl ?_
          refine wp_aload_n (i := 0) dX7_harmOf_88 rfl rfl ?_
          refine wp_getR (t := 2) dX7_harmOf_89 lf_X7_45 hC_1 rfl ?_
          refine wp_callVI (vs := [.int x6, .ref 2]) (rest := []) dX7_harmOf_92 mV_X2_isKept lm_X7_80 hC_8 rfl rfl rfl (Nat.le_of_ble_eq_true rfl) (CallI.mono h (fun y8 σ7 h => ?_))
          refine wp_ifeq (tgt := 101) dX7_harmOf_95 (by decide) ⟨fun q => ?_, fun q => ?_⟩
          · replace h := h.1 q
            refine wp_iinc (i := 6) (v := x6 + nI 1) (Lo' := [some (.ref 1), some (.int x1), some (.int x2), none, some (.ref 8), some (.int x5), some (.int (x6 + nI 1)), some (.int (nI 1))]) dX7_harmOf_101 rfl (by rfl) (by decide) rfl rfl ?_
            refine wp_goto (tgt := 39) dX7_harmOf_104 (by decide) ?_
            exact wp_mask [true, true, true, false, true, true, true, false] h
          · replace h := h.2 q
            refine wp_iinc (i := 5) (v := x5 + nI 1) (Lo' := [some (.ref 1), some (.int x1), some (.int x2), none, some (.ref 8), some (.int (x5 + nI 1)), some (.int x6), some (.int (nI 1))]) dX7_harmOf_98 rfl (by rfl) (by decide) rfl rfl ?_
            refine wp_iinc (i := 6) (v := x6 + nI 1) (Lo' := [some (.ref 1), some (.int x1), some (.int x2), none, some (.ref 8), some (.int (x5 + nI 1)), some (.int (x6 + nI 1)), some (.int (nI 1))]) dX7_harmOf_101 rfl (by rfl) (by decide) rfl rfl ?_
            refine wp_goto (tgt := 39) dX7_harmOf_104 (by decide) ?_
            exact wp_mask [true, true, true, false, true, true, true, false] h
set_option maxRecDepth 20000 in
set_option maxHeartbeats 2000000 in
theorem vc_Thoughts_harmOf {E : KE} {d : Nat} {x1 : Int32} {x2 : Int32} {σ : Sg} {K : Int32 → Sg → Prop} (h : CallI E shC d mX1_timesOf [.ref 2, .int x1, .int x2] σ (fun y2 σ1 => CallI E shC d mX1_isUpIfHad [.ref 2, .int x1, .int x2, .int (y2 - (nI 1))] σ1 (fun y4 σ3 => (y4 = 0 → WP E shC mX7_harmOf (d + 1) 39 [some (.ref 1), some (.int x1), some (.int x2), none, some (.ref 8), some (.int (nI 0)), some (.int (nI 0)), none] [] σ3 (k_qi K)) ∧ (¬ y4 = 0 → K (nI 0) σ3)))) : CallI E shC (d + 1) mX7_harmOf [.ref 1, .int x1, .int x2] σ K := by
  refine wp_enter (Lo := [some (.ref 1), some (.int x1), some (.int x2), none, none, none, none, none]) mp_X7_harmOf (Nat.le_of_ble_eq_true rfl) rfl ?_
  refine wp_aload_n (i := 0) dX7_harmOf_0 rfl rfl ?_
  refine wp_getR (t := 2) dX7_harmOf_1 lf_X7_45 hC_1 rfl ?_
  refine wp_iload_n (i := 1) dX7_harmOf_4 rfl rfl ?_
  refine wp_iload_n (i := 2) dX7_harmOf_5 rfl rfl ?_
  refine wp_callVI (vs := [.int x1, .int x2]) (rest := []) dX7_harmOf_6 mV_X1_timesOf lm_X7_49 hC_2 rfl rfl rfl (Nat.le_of_ble_eq_true rfl) (CallI.mono h (fun y2 σ1 h => ?_))
  refine wp_istore_n (i := 3) (Lo' := [some (.ref 1), some (.int x1), some (.int x2), some (.int y2), none, none, none, none]) dX7_harmOf_9 rfl (by decide) rfl rfl ?_
  refine wp_aload_n (i := 0) dX7_harmOf_10 rfl rfl ?_
  refine wp_getR (t := 2) dX7_harmOf_11 lf_X7_45 hC_1 rfl ?_
  refine wp_iload_n (i := 1) dX7_harmOf_14 rfl rfl ?_
  refine wp_iload_n (i := 2) dX7_harmOf_15 rfl rfl ?_
  refine wp_iload_n (i := 3) dX7_harmOf_16 rfl rfl ?_
  refine wp_iconst (v := nI 1) dX7_harmOf_17 rfl ?_
  refine wp_isub dX7_harmOf_18 ?_
  refine wp_callVI (vs := [.int x1, .int x2, .int (y2 - (nI 1))]) (rest := []) dX7_harmOf_19 mV_X1_isUpIfHad lm_X7_62 hC_2 rfl rfl rfl (Nat.le_of_ble_eq_true rfl) (CallI.mono h (fun y4 σ3 h => ?_))
  refine wp_ifeq (tgt := 27) dX7_harmOf_22 (by decide) ⟨fun q => ?_, fun q => ?_⟩
  · replace h := h.1 q
    refine wp_aload_n (i := 0) dX7_harmOf_27 rfl rfl ?_
    refine wp_getR (t := 8) dX7_harmOf_28 lf_X7_66 hC_1 rfl ?_
    refine wp_astore (i := 4) (Lo' := [some (.ref 1), some (.int x1), some (.int x2), some (.int y2), some (.ref 8), none, none, none]) dX7_harmOf_31 (by decide) rfl rfl ?_
    refine wp_iconst (v := nI 0) dX7_harmOf_33 rfl ?_
    refine wp_istore (i := 5) (Lo' := [some (.ref 1), some (.int x1), some (.int x2), some (.int y2), some (.ref 8), some (.int (nI 0)), none, none]) dX7_harmOf_34 (by decide) rfl rfl ?_
    refine wp_iconst (v := nI 0) dX7_harmOf_36 rfl ?_
    refine wp_istore (i := 6) (Lo' := [some (.ref 1), some (.int x1), some (.int x2), some (.int y2), some (.ref 8), some (.int (nI 0)), some (.int (nI 0)), none]) dX7_harmOf_37 (by decide) rfl rfl ?_
    exact wp_mask [true, true, true, false, true, true, true, false] h
  · replace h := h.2 q
    refine wp_iconst (v := nI 0) dX7_harmOf_25 rfl ?_
    exact wp_ireturn dX7_harmOf_26 rfl ⟨_, rfl, h⟩
set_option maxRecDepth 20000 in
set_option maxHeartbeats 2000000 in
theorem vb_Thoughts_takenByBailiffs_75 {E : KE} {d : Nat} {x3 : Int32} {x4 : Int32} {x5 : Int32} {x6 : Int32} {σ : Sg} {K : Int32 → Sg → Prop} (h : (x3 ≤ x6 → K x5 σ) ∧ (¬ x3 ≤ x6 → CallI E shC d mX7_leastOf [.ref 52, .int (x4 &&& (x5 ^^^ (-1 : Int32)))] σ (fun y2 σ1 => (y2 = (-1 : Int32) → WP E shC mX7_takenByBailiffs (d + 1) 75 [some (.ref 52), none, none, some (.int x3), some (.int x4), some (.int x5), some (.int (x6 + nI 1)), none] [] σ1 (k_qi K)) ∧ (¬ y2 = (-1 : Int32) → WP E shC mX7_takenByBailiffs (d + 1) 75 [some (.ref 52), none, none, some (.int x3), some (.int x4), some (.int (x5 ||| ((nI 1) <<< (y2 &&& 31)))), some (.int (x6 + nI 1)), none] [] σ1 (k_qi K))))) : WP E shC mX7_takenByBailiffs (d + 1) 75 [some (.ref 52), none, none, some (.int x3), some (.int x4), some (.int x5), some (.int x6), none] [] σ (k_qi K) := by
  refine wp_iload (i := 6) dX7_takenByBailiffs_75 rfl ?_
  refine wp_iload_n (i := 3) dX7_takenByBailiffs_77 rfl rfl ?_
  refine wp_icmpge (tgt := 115) dX7_takenByBailiffs_78 (by decide) ⟨fun q => ?_, fun q => ?_⟩
  · replace h := h.1 q
    refine wp_iload (i := 5) dX7_takenByBailiffs_115 rfl ?_
    exact wp_ireturn dX7_takenByBailiffs_117 rfl ⟨_, rfl, h⟩
  · replace h := h.2 q
    refine wp_aload_n (i := 0) dX7_takenByBailiffs_81 rfl rfl ?_
    refine wp_iload (i := 4) dX7_takenByBailiffs_82 rfl ?_
    refine wp_iload (i := 5) dX7_takenByBailiffs_84 rfl ?_
    refine wp_iconst (v := (-1 : Int32)) dX7_takenByBailiffs_86 rfl ?_
    refine wp_ixor dX7_takenByBailiffs_87 ?_
    refine wp_iand dX7_takenByBailiffs_88 ?_
    refine wp_callVI (vs := [.int (x4 &&& (x5 ^^^ (-1 : Int32)))]) (rest := []) dX7_takenByBailiffs_89 mV_X7_leastOf lm_X7_55 hC_52 rfl rfl rfl (Nat.le_of_ble_eq_true rfl) (CallI.mono h (fun y2 σ1 h => ?_))
    refine wp_istore (i := 7) (Lo' := [some (.ref 52), none, none, some (.int x3), some (.int x4), some (.int x5), some (.int x6), some (.int y2)]) dX7_takenByBailiffs_92 (by decide) rfl rfl ?_
    refine wp_iload (i := 7) dX7_takenByBailiffs_94 rfl ?_
    refine wp_iconst (v := (-1 : Int32)) dX7_takenByBailiffs_96 rfl ?_
    refine wp_icmpeq (tgt := 109) dX7_takenByBailiffs_97 (by decide) ⟨fun q => ?_, fun q => ?_⟩
    · replace h := h.1 q
      refine wp_iinc (i := 6) (v := x6 + nI 1) (Lo' := [some (.ref 52), none, none, some (.int x3), some (.int x4), some (.int x5), some (.int (x6 + nI 1)), some (.int y2)]) dX7_takenByBailiffs_109 rfl (by rfl) (by decide) rfl rfl ?_
      refine wp_goto (tgt := 75) dX7_takenByBailiffs_112 (by decide) ?_
      exact wp_mask [true, false, false, true, true, true, true, false] h
    · replace h := h.2 q
      refine wp_iload (i := 5) dX7_takenByBailiffs_100 rfl ?_
      refine wp_iconst (v := nI 1) dX7_takenByBailiffs_102 rfl ?_
      refine wp_iload (i := 7) dX7_takenByBailiffs_103 rfl ?_
      refine wp_ishl dX7_takenByBailiffs_105 ?_
      refine wp_ior dX7_takenByBailiffs_106 ?_
      refine wp_istore (i := 5) (Lo' := [some (.ref 52), none, none, some (.int x3), some (.int x4), some (.int (x5 ||| ((nI 1) <<< (y2 &&& 31)))), some (.int x6), some (.int y2)]) dX7_takenByBailiffs_107 (by decide) rfl rfl ?_
      refine wp_iinc (i := 6) (v := x6 + nI 1) (Lo' := [some (.ref 52), none, none, some (.int x3), some (.int x4), some (.int (x5 ||| ((nI 1) <<< (y2 &&& 31)))), some (.int (x6 + nI 1)), some (.int y2)]) dX7_takenByBailiffs_109 rfl (by rfl) (by decide) rfl rfl ?_
      refine wp_goto (tgt := 75) dX7_takenByBailiffs_112 (by decide) ?_
      exact wp_mask [true, false, false, true, true, true, true, false] h
set_option maxRecDepth 20000 in
set_option maxHeartbeats 2000000 in
theorem vb_Thoughts_takenByBailiffs_6 {E : KE} {d : Nat} {x2 : Int32} {x3 : Int32} {x4 : Int32} {x5 : Int32} {σ : Sg} {K : Int32 → Sg → Prop} (h : ((nI 28) ≤ x5 → WP E shC mX7_takenByBailiffs (d + 1) 75 [some (.ref 52), none, none, some (.int x3), some (.int x4), some (.int (nI 0)), some (.int (nI 0)), none] [] σ (k_qi K)) ∧ (¬ (nI 28) ≤ x5 → CallI E shC d mX9_priceOf [.ref 1, .int x2, .int x5] σ (fun y2 σ1 => vp_in x5 28 ∧ (∀ σ3, σ3 = k_put σ1 54 (upd (σ1 54) x5.toNatClampNeg y2) → CallI E shC d mX7_harmOf [.ref 1, .int x2, .int x5] σ3 (fun y6 σ5 => vp_in x5 28 ∧ (∀ σ7, σ7 = k_put σ5 55 (upd (σ5 55) x5.toNatClampNeg y6) → CallI E shC d mX1_timesOf [.ref 2, .int x2, .int x5] σ7 (fun y10 σ9 => (y10 ≤ 0 → WP E shC mX7_takenByBailiffs (d + 1) 6 [some (.ref 52), some (.ref 1), some (.int x2), some (.int x3), some (.int x4), some (.int (x5 + nI 1)), none, none] [] σ9 (k_qi K)) ∧ (¬ y10 ≤ 0 → WP E shC mX7_takenByBailiffs (d + 1) 6 [some (.ref 52), some (.ref 1), some (.int x2), some (.int x3), some (.int (x4 ||| ((nI 1) <<< (x5 &&& 31)))), some (.int (x5 + nI 1)), none, none] [] σ9 (k_qi K))))))))) : WP E shC mX7_takenByBailiffs (d + 1) 6 [some (.ref 52), some (.ref 1), some (.int x2), some (.int x3), some (.int x4), some (.int x5), none, none] [] σ (k_qi K) := by
  refine wp_iload (i := 5) dX7_takenByBailiffs_6 rfl ?_
  refine wp_bipush (v := nI 28) dX7_takenByBailiffs_8 (by decide) ?_
  refine wp_icmpge (tgt := 69) dX7_takenByBailiffs_10 (by decide) ⟨fun q => ?_, fun q => ?_⟩
  · replace h := h.1 q
    refine wp_iconst (v := nI 0) dX7_takenByBailiffs_69 rfl ?_
    refine wp_istore (i := 5) (Lo' := [some (.ref 52), some (.ref 1), some (.int x2), some (.int x3), some (.int x4), some (.int (nI 0)), none, none]) dX7_takenByBailiffs_70 (by decide) rfl rfl ?_
    refine wp_iconst (v := nI 0) dX7_takenByBailiffs_72 rfl ?_
    refine wp_istore (i := 6) (Lo' := [some (.ref 52), some (.ref 1), some (.int x2), some (.int x3), some (.int x4), some (.int (nI 0)), some (.int (nI 0)), none]) dX7_takenByBailiffs_73 (by decide) rfl rfl ?_
    exact wp_mask [true, false, false, true, true, true, true, false] h
  · replace h := h.2 q
    refine wp_aload_n (i := 0) dX7_takenByBailiffs_13 rfl rfl ?_
    refine wp_getR (t := 54) dX7_takenByBailiffs_14 lf_X7_15 hC_52 rfl ?_
    refine wp_iload (i := 5) dX7_takenByBailiffs_17 rfl ?_
    refine wp_aload_n (i := 1) dX7_takenByBailiffs_19 rfl rfl ?_
    refine wp_iload_n (i := 2) dX7_takenByBailiffs_20 rfl rfl ?_
    refine wp_iload (i := 5) dX7_takenByBailiffs_21 rfl ?_
    refine wp_callVI (vs := [.int x2, .int x5]) (rest := [.int x5, .ref 54]) dX7_takenByBailiffs_23 mV_X9_priceOf lm_X7_39 hC_1 rfl rfl rfl (Nat.le_of_ble_eq_true rfl) (CallI.mono h (fun y2 σ1 h => ?_))
    refine wp_iast dX7_takenByBailiffs_26 hC_54 ⟨h.1, ?_⟩
    refine wp_nm (fun σ3 e4 => ?_)
    replace h := h.2 σ3 e4
    refine wp_aload_n (i := 0) dX7_takenByBailiffs_27 rfl rfl ?_
    refine wp_getR (t := 55) dX7_takenByBailiffs_28 lf_X7_18 hC_52 rfl ?_
    refine wp_iload (i := 5) dX7_takenByBailiffs_31 rfl ?_
    refine wp_aload_n (i := 1) dX7_takenByBailiffs_33 rfl rfl ?_
    refine wp_iload_n (i := 2) dX7_takenByBailiffs_34 rfl rfl ?_
    refine wp_iload (i := 5) dX7_takenByBailiffs_35 rfl ?_
    refine wp_callSI (vs := [.ref 1, .int x2, .int x5]) (rest := [.int x5, .ref 55]) dX7_takenByBailiffs_37 mS_X7_harmOf lm_X7_58 rfl rfl (Nat.le_of_ble_eq_true rfl) (CallI.mono h (fun y6 σ5 h => ?_))
    refine wp_iast dX7_takenByBailiffs_40 hC_55 ⟨h.1, ?_⟩
    refine wp_nm (fun σ7 e8 => ?_)
    replace h := h.2 σ7 e8
    refine wp_aload_n (i := 1) dX7_takenByBailiffs_41 rfl rfl ?_
    refine wp_getR (t := 2) dX7_takenByBailiffs_42 lf_X7_45 hC_1 rfl ?_
    refine wp_iload_n (i := 2) dX7_takenByBailiffs_45 rfl rfl ?_
    refine wp_iload (i := 5) dX7_takenByBailiffs_46 rfl ?_
    refine wp_callVI (vs := [.int x2, .int x5]) (rest := []) dX7_takenByBailiffs_48 mV_X1_timesOf lm_X7_49 hC_2 rfl rfl rfl (Nat.le_of_ble_eq_true rfl) (CallI.mono h (fun y10 σ9 h => ?_))
    refine wp_ifle (tgt := 63) dX7_takenByBailiffs_51 (by decide) ⟨fun q => ?_, fun q => ?_⟩
    · replace h := h.1 q
      refine wp_iinc (i := 5) (v := x5 + nI 1) (Lo' := [some (.ref 52), some (.ref 1), some (.int x2), some (.int x3), some (.int x4), some (.int (x5 + nI 1)), none, none]) dX7_takenByBailiffs_63 rfl (by rfl) (by decide) rfl rfl ?_
      refine wp_goto (tgt := 6) dX7_takenByBailiffs_66 (by decide) ?_
      exact wp_mask [true, true, true, true, true, true, false, false] h
    · replace h := h.2 q
      refine wp_iload (i := 4) dX7_takenByBailiffs_54 rfl ?_
      refine wp_iconst (v := nI 1) dX7_takenByBailiffs_56 rfl ?_
      refine wp_iload (i := 5) dX7_takenByBailiffs_57 rfl ?_
      refine wp_ishl dX7_takenByBailiffs_59 ?_
      refine wp_ior dX7_takenByBailiffs_60 ?_
      refine wp_istore (i := 4) (Lo' := [some (.ref 52), some (.ref 1), some (.int x2), some (.int x3), some (.int (x4 ||| ((nI 1) <<< (x5 &&& 31)))), some (.int x5), none, none]) dX7_takenByBailiffs_61 (by decide) rfl rfl ?_
      refine wp_iinc (i := 5) (v := x5 + nI 1) (Lo' := [some (.ref 52), some (.ref 1), some (.int x2), some (.int x3), some (.int (x4 ||| ((nI 1) <<< (x5 &&& 31)))), some (.int (x5 + nI 1)), none, none]) dX7_takenByBailiffs_63 rfl (by rfl) (by decide) rfl rfl ?_
      refine wp_goto (tgt := 6) dX7_takenByBailiffs_66 (by decide) ?_
      exact wp_mask [true, true, true, true, true, true, false, false] h
set_option maxRecDepth 20000 in
set_option maxHeartbeats 2000000 in
theorem vc_Thoughts_takenByBailiffs {E : KE} {d : Nat} {x2 : Int32} {x3 : Int32} {σ : Sg} {K : Int32 → Sg → Prop} (h : WP E shC mX7_takenByBailiffs (d + 1) 6 [some (.ref 52), some (.ref 1), some (.int x2), some (.int x3), some (.int (nI 0)), some (.int (nI 0)), none, none] [] σ (k_qi K)) : CallI E shC (d + 1) mX7_takenByBailiffs [.ref 52, .ref 1, .int x2, .int x3] σ K := by
  refine wp_enter (Lo := [some (.ref 52), some (.ref 1), some (.int x2), some (.int x3), none, none, none, none]) mp_X7_takenByBailiffs (Nat.le_of_ble_eq_true rfl) rfl ?_
  refine wp_iconst (v := nI 0) dX7_takenByBailiffs_0 rfl ?_
  refine wp_istore (i := 4) (Lo' := [some (.ref 52), some (.ref 1), some (.int x2), some (.int x3), some (.int (nI 0)), none, none, none]) dX7_takenByBailiffs_1 (by decide) rfl rfl ?_
  refine wp_iconst (v := nI 0) dX7_takenByBailiffs_3 rfl ?_
  refine wp_istore (i := 5) (Lo' := [some (.ref 52), some (.ref 1), some (.int x2), some (.int x3), some (.int (nI 0)), some (.int (nI 0)), none, none]) dX7_takenByBailiffs_4 (by decide) rfl rfl ?_
  exact wp_mask [true, true, true, true, true, true, false, false] h
set_option maxRecDepth 20000 in
set_option maxHeartbeats 2000000 in
theorem vb_Thoughts_sumOver_54_4 {E : KE} {d : Nat} {x0 : Int32} {x2 : Int32} {x3 : Int32} {σ : Sg} {K : Int32 → Sg → Prop} (h : ((nI 28) ≤ x3 → K x2 σ) ∧ (¬ (nI 28) ≤ x3 → (¬ ((x0 >>> (x3 &&& 31)) &&& (nI 1)) = (nI 1) → WP E shC mX7_sumOver d 4 [some (.int x0), some (.ref 54), some (.int x2), some (.int (x3 + nI 1))] [] σ (k_qi K)) ∧ (((x0 >>> (x3 &&& 31)) &&& (nI 1)) = (nI 1) → vp_in x3 28 ∧ (WP E shC mX7_sumOver d 4 [some (.int x0), some (.ref 54), some (.int (x2 + (σ 54 x3.toNatClampNeg))), some (.int (x3 + nI 1))] [] σ (k_qi K))))) : WP E shC mX7_sumOver d 4 [some (.int x0), some (.ref 54), some (.int x2), some (.int x3)] [] σ (k_qi K) := by
  refine wp_iload_n (i := 3) dX7_sumOver_4 rfl rfl ?_
  refine wp_bipush (v := nI 28) dX7_sumOver_5 (by decide) ?_
  refine wp_icmpge (tgt := 31) dX7_sumOver_7 (by decide) ⟨fun q => ?_, fun q => ?_⟩
  · replace h := h.1 q
    refine wp_iload_n (i := 2) dX7_sumOver_31 rfl rfl ?_
    exact wp_ireturn dX7_sumOver_32 rfl ⟨_, rfl, h⟩
  · replace h := h.2 q
    refine wp_iload_n (i := 0) dX7_sumOver_10 rfl rfl ?_
    refine wp_iload_n (i := 3) dX7_sumOver_11 rfl rfl ?_
    refine wp_ishr dX7_sumOver_12 ?_
    refine wp_iconst (v := nI 1) dX7_sumOver_13 rfl ?_
    refine wp_iand dX7_sumOver_14 ?_
    refine wp_iconst (v := nI 1) dX7_sumOver_15 rfl ?_
    refine wp_icmpne (tgt := 25) dX7_sumOver_16 (by decide) ⟨fun q => ?_, fun q => ?_⟩
    · replace h := h.1 q
      refine wp_iinc (i := 3) (v := x3 + nI 1) (Lo' := [some (.int x0), some (.ref 54), some (.int x2), some (.int (x3 + nI 1))]) dX7_sumOver_25 rfl (by rfl) (by decide) rfl rfl ?_
      refine wp_goto (tgt := 4) dX7_sumOver_28 (by decide) ?_
      exact wp_mask [true, true, true, true] h
    · replace h := h.2 q
      refine wp_iload_n (i := 2) dX7_sumOver_19 rfl rfl ?_
      refine wp_aload_n (i := 1) dX7_sumOver_20 rfl rfl ?_
      refine wp_iload_n (i := 3) dX7_sumOver_21 rfl rfl ?_
      refine wp_iald dX7_sumOver_22 hC_54 ⟨h.1, ?_⟩
      replace h := h.2
      refine wp_iadd dX7_sumOver_23 ?_
      refine wp_istore_n (i := 2) (Lo' := [some (.int x0), some (.ref 54), some (.int (x2 + (σ 54 x3.toNatClampNeg))), some (.int x3)]) dX7_sumOver_24 rfl (by decide) rfl rfl ?_
      refine wp_iinc (i := 3) (v := x3 + nI 1) (Lo' := [some (.int x0), some (.ref 54), some (.int (x2 + (σ 54 x3.toNatClampNeg))), some (.int (x3 + nI 1))]) dX7_sumOver_25 rfl (by rfl) (by decide) rfl rfl ?_
      refine wp_goto (tgt := 4) dX7_sumOver_28 (by decide) ?_
      exact wp_mask [true, true, true, true] h
set_option maxRecDepth 20000 in
set_option maxHeartbeats 2000000 in
theorem vc_Thoughts_sumOver_54 {E : KE} {d : Nat} {x0 : Int32} {σ : Sg} {K : Int32 → Sg → Prop} (h : WP E shC mX7_sumOver d 4 [some (.int x0), some (.ref 54), some (.int (nI 0)), some (.int (nI 0))] [] σ (k_qi K)) : CallI E shC d mX7_sumOver [.int x0, .ref 54] σ K := by
  refine wp_enter (Lo := [some (.int x0), some (.ref 54), none, none]) mp_X7_sumOver (Nat.le_of_ble_eq_true rfl) rfl ?_
  refine wp_iconst (v := nI 0) dX7_sumOver_0 rfl ?_
  refine wp_istore_n (i := 2) (Lo' := [some (.int x0), some (.ref 54), some (.int (nI 0)), none]) dX7_sumOver_1 rfl (by decide) rfl rfl ?_
  refine wp_iconst (v := nI 0) dX7_sumOver_2 rfl ?_
  refine wp_istore_n (i := 3) (Lo' := [some (.int x0), some (.ref 54), some (.int (nI 0)), some (.int (nI 0))]) dX7_sumOver_3 rfl (by decide) rfl rfl ?_
  exact wp_mask [true, true, true, true] h
set_option maxRecDepth 20000 in
set_option maxHeartbeats 2000000 in
theorem vc_Thoughts_pricesOf {E : KE} {d : Nat} {x1 : Int32} {σ : Sg} {K : Int32 → Sg → Prop} (h : CallI E shC d mX7_sumOver [.int x1, .ref 54] σ (fun y2 σ1 => K y2 σ1)) : CallI E shC (d + 1) mX7_pricesOf [.ref 52, .int x1] σ K := by
  refine wp_enter (Lo := [some (.ref 52), some (.int x1)]) mp_X7_pricesOf (Nat.le_of_ble_eq_true rfl) rfl ?_
  refine wp_iload_n (i := 1) dX7_pricesOf_0 rfl rfl ?_
  refine wp_aload_n (i := 0) dX7_pricesOf_1 rfl rfl ?_
  refine wp_getR (t := 54) dX7_pricesOf_2 lf_X7_15 hC_52 rfl ?_
  refine wp_callSI (vs := [.int x1, .ref 54]) (rest := []) dX7_pricesOf_5 mS_X7_sumOver lm_X7_87 rfl rfl (Nat.le_of_ble_eq_true rfl) (CallI.mono h (fun y2 σ1 h => ?_))
  exact wp_ireturn dX7_pricesOf_8 rfl ⟨_, rfl, h⟩
set_option maxRecDepth 20000 in
set_option maxHeartbeats 2000000 in
theorem vb_Promises_howManyUnkept_4 {E : KE} {d : Nat} {x2 : Int32} {x3 : Int32} {σ : Sg} {K : Int32 → Sg → Prop} (h : ((σ 8 3) ≤ x3 → K x2 σ) ∧ (¬ (σ 8 3) ≤ x3 → CallI E shC d mX2_isKept [.ref 8, .int x3, .ref 2] σ (fun y2 σ1 => (¬ y2 = 0 → WP E shC mX2_howManyUnkept (d + 1) 4 [some (.ref 8), some (.ref 2), some (.int x2), some (.int (x3 + nI 1))] [] σ1 (k_qi K)) ∧ (y2 = 0 → WP E shC mX2_howManyUnkept (d + 1) 4 [some (.ref 8), some (.ref 2), some (.int (x2 + nI 1)), some (.int (x3 + nI 1))] [] σ1 (k_qi K))))) : WP E shC mX2_howManyUnkept (d + 1) 4 [some (.ref 8), some (.ref 2), some (.int x2), some (.int x3)] [] σ (k_qi K) := by
  refine wp_iload_n (i := 3) dX2_howManyUnkept_4 rfl rfl ?_
  refine wp_aload_n (i := 0) dX2_howManyUnkept_5 rfl rfl ?_
  refine wp_getI dX2_howManyUnkept_6 lf_X2_21 hC_8 rfl ?_
  refine wp_icmpge (tgt := 30) dX2_howManyUnkept_9 (by decide) ⟨fun q => ?_, fun q => ?_⟩
  · replace h := h.1 q
    refine wp_iload_n (i := 2) dX2_howManyUnkept_30 rfl rfl ?_
    exact wp_ireturn dX2_howManyUnkept_31 rfl ⟨_, rfl, h⟩
  · replace h := h.2 q
    refine wp_aload_n (i := 0) dX2_howManyUnkept_12 rfl rfl ?_
    refine wp_iload_n (i := 3) dX2_howManyUnkept_13 rfl rfl ?_
    refine wp_aload_n (i := 1) dX2_howManyUnkept_14 rfl rfl ?_
    refine wp_callVI (vs := [.int x3, .ref 2]) (rest := []) dX2_howManyUnkept_15 mV_X2_isKept lm_X2_31 hC_8 rfl rfl rfl (Nat.le_of_ble_eq_true rfl) (CallI.mono h (fun y2 σ1 h => ?_))
    refine wp_ifne (tgt := 24) dX2_howManyUnkept_18 (by decide) ⟨fun q => ?_, fun q => ?_⟩
    · replace h := h.1 q
      refine wp_iinc (i := 3) (v := x3 + nI 1) (Lo' := [some (.ref 8), some (.ref 2), some (.int x2), some (.int (x3 + nI 1))]) dX2_howManyUnkept_24 rfl (by rfl) (by decide) rfl rfl ?_
      refine wp_goto (tgt := 4) dX2_howManyUnkept_27 (by decide) ?_
      exact wp_mask [true, true, true, true] h
    · replace h := h.2 q
      refine wp_iinc (i := 2) (v := x2 + nI 1) (Lo' := [some (.ref 8), some (.ref 2), some (.int (x2 + nI 1)), some (.int x3)]) dX2_howManyUnkept_21 rfl (by rfl) (by decide) rfl rfl ?_
      refine wp_iinc (i := 3) (v := x3 + nI 1) (Lo' := [some (.ref 8), some (.ref 2), some (.int (x2 + nI 1)), some (.int (x3 + nI 1))]) dX2_howManyUnkept_24 rfl (by rfl) (by decide) rfl rfl ?_
      refine wp_goto (tgt := 4) dX2_howManyUnkept_27 (by decide) ?_
      exact wp_mask [true, true, true, true] h
set_option maxRecDepth 20000 in
set_option maxHeartbeats 2000000 in
theorem vc_Promises_howManyUnkept {E : KE} {d : Nat} {σ : Sg} {K : Int32 → Sg → Prop} (h : WP E shC mX2_howManyUnkept (d + 1) 4 [some (.ref 8), some (.ref 2), some (.int (nI 0)), some (.int (nI 0))] [] σ (k_qi K)) : CallI E shC (d + 1) mX2_howManyUnkept [.ref 8, .ref 2] σ K := by
  refine wp_enter (Lo := [some (.ref 8), some (.ref 2), none, none]) mp_X2_howManyUnkept (Nat.le_of_ble_eq_true rfl) rfl ?_
  refine wp_iconst (v := nI 0) dX2_howManyUnkept_0 rfl ?_
  refine wp_istore_n (i := 2) (Lo' := [some (.ref 8), some (.ref 2), some (.int (nI 0)), none]) dX2_howManyUnkept_1 rfl (by decide) rfl rfl ?_
  refine wp_iconst (v := nI 0) dX2_howManyUnkept_2 rfl ?_
  refine wp_istore_n (i := 3) (Lo' := [some (.ref 8), some (.ref 2), some (.int (nI 0)), some (.int (nI 0))]) dX2_howManyUnkept_3 rfl (by decide) rfl rfl ?_
  exact wp_mask [true, true, true, true] h
set_option maxRecDepth 20000 in
set_option maxHeartbeats 2000000 in
theorem vb_Thoughts_sumOver_55_4 {E : KE} {d : Nat} {x0 : Int32} {x2 : Int32} {x3 : Int32} {σ : Sg} {K : Int32 → Sg → Prop} (h : ((nI 28) ≤ x3 → K x2 σ) ∧ (¬ (nI 28) ≤ x3 → (¬ ((x0 >>> (x3 &&& 31)) &&& (nI 1)) = (nI 1) → WP E shC mX7_sumOver d 4 [some (.int x0), some (.ref 55), some (.int x2), some (.int (x3 + nI 1))] [] σ (k_qi K)) ∧ (((x0 >>> (x3 &&& 31)) &&& (nI 1)) = (nI 1) → vp_in x3 28 ∧ (WP E shC mX7_sumOver d 4 [some (.int x0), some (.ref 55), some (.int (x2 + (σ 55 x3.toNatClampNeg))), some (.int (x3 + nI 1))] [] σ (k_qi K))))) : WP E shC mX7_sumOver d 4 [some (.int x0), some (.ref 55), some (.int x2), some (.int x3)] [] σ (k_qi K) := by
  refine wp_iload_n (i := 3) dX7_sumOver_4 rfl rfl ?_
  refine wp_bipush (v := nI 28) dX7_sumOver_5 (by decide) ?_
  refine wp_icmpge (tgt := 31) dX7_sumOver_7 (by decide) ⟨fun q => ?_, fun q => ?_⟩
  · replace h := h.1 q
    refine wp_iload_n (i := 2) dX7_sumOver_31 rfl rfl ?_
    exact wp_ireturn dX7_sumOver_32 rfl ⟨_, rfl, h⟩
  · replace h := h.2 q
    refine wp_iload_n (i := 0) dX7_sumOver_10 rfl rfl ?_
    refine wp_iload_n (i := 3) dX7_sumOver_11 rfl rfl ?_
    refine wp_ishr dX7_sumOver_12 ?_
    refine wp_iconst (v := nI 1) dX7_sumOver_13 rfl ?_
    refine wp_iand dX7_sumOver_14 ?_
    refine wp_iconst (v := nI 1) dX7_sumOver_15 rfl ?_
    refine wp_icmpne (tgt := 25) dX7_sumOver_16 (by decide) ⟨fun q => ?_, fun q => ?_⟩
    · replace h := h.1 q
      refine wp_iinc (i := 3) (v := x3 + nI 1) (Lo' := [some (.int x0), some (.ref 55), some (.int x2), some (.int (x3 + nI 1))]) dX7_sumOver_25 rfl (by rfl) (by decide) rfl rfl ?_
      refine wp_goto (tgt := 4) dX7_sumOver_28 (by decide) ?_
      exact wp_mask [true, true, true, true] h
    · replace h := h.2 q
      refine wp_iload_n (i := 2) dX7_sumOver_19 rfl rfl ?_
      refine wp_aload_n (i := 1) dX7_sumOver_20 rfl rfl ?_
      refine wp_iload_n (i := 3) dX7_sumOver_21 rfl rfl ?_
      refine wp_iald dX7_sumOver_22 hC_55 ⟨h.1, ?_⟩
      replace h := h.2
      refine wp_iadd dX7_sumOver_23 ?_
      refine wp_istore_n (i := 2) (Lo' := [some (.int x0), some (.ref 55), some (.int (x2 + (σ 55 x3.toNatClampNeg))), some (.int x3)]) dX7_sumOver_24 rfl (by decide) rfl rfl ?_
      refine wp_iinc (i := 3) (v := x3 + nI 1) (Lo' := [some (.int x0), some (.ref 55), some (.int (x2 + (σ 55 x3.toNatClampNeg))), some (.int (x3 + nI 1))]) dX7_sumOver_25 rfl (by rfl) (by decide) rfl rfl ?_
      refine wp_goto (tgt := 4) dX7_sumOver_28 (by decide) ?_
      exact wp_mask [true, true, true, true] h
set_option maxRecDepth 20000 in
set_option maxHeartbeats 2000000 in
theorem vc_Thoughts_sumOver_55 {E : KE} {d : Nat} {x0 : Int32} {σ : Sg} {K : Int32 → Sg → Prop} (h : WP E shC mX7_sumOver d 4 [some (.int x0), some (.ref 55), some (.int (nI 0)), some (.int (nI 0))] [] σ (k_qi K)) : CallI E shC d mX7_sumOver [.int x0, .ref 55] σ K := by
  refine wp_enter (Lo := [some (.int x0), some (.ref 55), none, none]) mp_X7_sumOver (Nat.le_of_ble_eq_true rfl) rfl ?_
  refine wp_iconst (v := nI 0) dX7_sumOver_0 rfl ?_
  refine wp_istore_n (i := 2) (Lo' := [some (.int x0), some (.ref 55), some (.int (nI 0)), none]) dX7_sumOver_1 rfl (by decide) rfl rfl ?_
  refine wp_iconst (v := nI 0) dX7_sumOver_2 rfl ?_
  refine wp_istore_n (i := 3) (Lo' := [some (.int x0), some (.ref 55), some (.int (nI 0)), some (.int (nI 0))]) dX7_sumOver_3 rfl (by decide) rfl rfl ?_
  exact wp_mask [true, true, true, true] h
set_option maxRecDepth 20000 in
set_option maxHeartbeats 2000000 in
theorem vc_Thoughts_harmsOf {E : KE} {d : Nat} {x1 : Int32} {σ : Sg} {K : Int32 → Sg → Prop} (h : CallI E shC d mX7_sumOver [.int x1, .ref 55] σ (fun y2 σ1 => K y2 σ1)) : CallI E shC (d + 1) mX7_harmsOf [.ref 52, .int x1] σ K := by
  refine wp_enter (Lo := [some (.ref 52), some (.int x1)]) mp_X7_harmsOf (Nat.le_of_ble_eq_true rfl) rfl ?_
  refine wp_iload_n (i := 1) dX7_harmsOf_0 rfl rfl ?_
  refine wp_aload_n (i := 0) dX7_harmsOf_1 rfl rfl ?_
  refine wp_getR (t := 55) dX7_harmsOf_2 lf_X7_18 hC_52 rfl ?_
  refine wp_callSI (vs := [.int x1, .ref 55]) (rest := []) dX7_harmsOf_5 mS_X7_sumOver lm_X7_87 rfl rfl (Nat.le_of_ble_eq_true rfl) (CallI.mono h (fun y2 σ1 h => ?_))
  exact wp_ireturn dX7_harmsOf_8 rfl ⟨_, rfl, h⟩
set_option maxRecDepth 20000 in
set_option maxHeartbeats 2000000 in
theorem vc_SD_bailiffs {E : KE} {d : Nat} {x1 : Int32} {x2 : Int32} {x3 : Int32} {σ : Sg} {K : Int32 → Sg → Prop} (h : CallI E shC d mX1_knows [.ref 2, .int x1] σ (fun y2 σ1 => (y2 = 0 → CallI E shC d mX10_error [.ref 0, .int (nI 1)] σ1 (fun y4 σ3 => K y4 σ3)) ∧ (¬ y2 = 0 → CallI E shC d mX10_isWithin [.int x2, .int (nI 1), .int (nI 3)] σ1 (fun y6 σ5 => (y6 = 0 → CallI E shC d mX10_error [.ref 0, .int (nI 1)] σ5 (fun y8 σ7 => K y8 σ7)) ∧ (¬ y6 = 0 → CallI E shC d mX10_isWithin [.int x3, .int (-2 : Int32), .int (x2 - (nI 1))] σ5 (fun y10 σ9 => (¬ y10 = 0 → CallI E shC d mX1_howManyDays [.ref 2, .int x1] σ9 (fun y12 σ11 => (x2 ≤ y12 → CallI E shC d mX7_takenByBailiffs [.ref 52, .ref 1, .int x1, .int x2] σ11 (fun y14 σ13 => (x3 = (-2 : Int32) → CallI E shC d mX7_pricesOf [.ref 52, .int y14] σ13 (fun y18 σ17 => K y18 σ17)) ∧ (x3 = (-1 : Int32) → CallI E shC d mX2_howManyUnkept [.ref 8, .ref 2] σ13 (fun y20 σ19 => CallI E shC d mX7_harmsOf [.ref 52, .int y14] σ19 (fun y22 σ21 => K (y20 + y22) σ21))) ∧ (¬ x3 = (-2 : Int32) → ¬ x3 = (-1 : Int32) → CallI E shC d mX7_memberOf [.int y14, .int x3] σ13 (fun y16 σ15 => K y16 σ15)))) ∧ (¬ x2 ≤ y12 → CallI E shC d mX10_error [.ref 0, .int (nI 2)] σ11 (fun y24 σ23 => K y24 σ23)))) ∧ (y10 = 0 → CallI E shC d mX10_error [.ref 0, .int (nI 1)] σ9 (fun y26 σ25 => K y26 σ25)))))))) : CallI E shC (d + 1) mX10_bailiffs [.ref 0, .int x1, .int x2, .int x3] σ K := by
  refine wp_enter (Lo := [some (.ref 0), some (.int x1), some (.int x2), some (.int x3), none]) mp_X10_bailiffs (Nat.le_of_ble_eq_true rfl) rfl ?_
  refine wp_aload_n (i := 0) dX10_bailiffs_0 rfl rfl ?_
  refine wp_getR (t := 1) dX10_bailiffs_1 lf_X10_10 hC_0 rfl ?_
  refine wp_getR (t := 2) dX10_bailiffs_4 lf_X10_66 hC_1 rfl ?_
  refine wp_iload_n (i := 1) dX10_bailiffs_7 rfl rfl ?_
  refine wp_callVI (vs := [.int x1]) (rest := []) dX10_bailiffs_8 mV_X1_knows lm_X10_78 hC_2 rfl rfl rfl (Nat.le_of_ble_eq_true rfl) (CallI.mono h (fun y2 σ1 h => ?_))
  refine wp_ifeq (tgt := 35) dX10_bailiffs_11 (by decide) ⟨fun q => ?_, fun q => ?_⟩
  · replace h := h.1 q
    refine wp_aload_n (i := 0) dX10_bailiffs_35 rfl rfl ?_
    refine wp_iconst (v := nI 1) dX10_bailiffs_36 rfl ?_
    refine wp_callVI (vs := [.int (nI 1)]) (rest := []) dX10_bailiffs_37 mV_X10_error lm_X10_62 hC_0 rfl rfl rfl (Nat.le_of_ble_eq_true rfl) (CallI.mono h (fun y4 σ3 h => ?_))
    exact wp_ireturn dX10_bailiffs_40 rfl ⟨_, rfl, h⟩
  · replace h := h.2 q
    refine wp_iload_n (i := 2) dX10_bailiffs_14 rfl rfl ?_
    refine wp_iconst (v := nI 1) dX10_bailiffs_15 rfl ?_
    refine wp_iconst (v := nI 3) dX10_bailiffs_16 rfl ?_
    refine wp_callSI (vs := [.int x2, .int (nI 1), .int (nI 3)]) (rest := []) dX10_bailiffs_17 mS_X10_isWithin lm_X10_81 rfl rfl (Nat.le_of_ble_eq_true rfl) (CallI.mono h (fun y6 σ5 h => ?_))
    refine wp_ifeq (tgt := 35) dX10_bailiffs_20 (by decide) ⟨fun q => ?_, fun q => ?_⟩
    · replace h := h.1 q
      refine wp_aload_n (i := 0) dX10_bailiffs_35 rfl rfl ?_
      refine wp_iconst (v := nI 1) dX10_bailiffs_36 rfl ?_
      refine wp_callVI (vs := [.int (nI 1)]) (rest := []) dX10_bailiffs_37 mV_X10_error lm_X10_62 hC_0 rfl rfl rfl (Nat.le_of_ble_eq_true rfl) (CallI.mono h (fun y8 σ7 h => ?_))
      exact wp_ireturn dX10_bailiffs_40 rfl ⟨_, rfl, h⟩
    · replace h := h.2 q
      refine wp_iload_n (i := 3) dX10_bailiffs_23 rfl rfl ?_
      refine wp_bipush (v := (-2 : Int32)) dX10_bailiffs_24 (by decide) ?_
      refine wp_iload_n (i := 2) dX10_bailiffs_26 rfl rfl ?_
      refine wp_iconst (v := nI 1) dX10_bailiffs_27 rfl ?_
      refine wp_isub dX10_bailiffs_28 ?_
      refine wp_callSI (vs := [.int x3, .int (-2 : Int32), .int (x2 - (nI 1))]) (rest := []) dX10_bailiffs_29 mS_X10_isWithin lm_X10_81 rfl rfl (Nat.le_of_ble_eq_true rfl) (CallI.mono h (fun y10 σ9 h => ?_))
      refine wp_ifne (tgt := 41) dX10_bailiffs_32 (by decide) ⟨fun q => ?_, fun q => ?_⟩
      · replace h := h.1 q
        refine wp_aload_n (i := 0) dX10_bailiffs_41 rfl rfl ?_
        refine wp_getR (t := 1) dX10_bailiffs_42 lf_X10_10 hC_0 rfl ?_
        refine wp_getR (t := 2) dX10_bailiffs_45 lf_X10_66 hC_1 rfl ?_
        refine wp_iload_n (i := 1) dX10_bailiffs_48 rfl rfl ?_
        refine wp_callVI (vs := [.int x1]) (rest := []) dX10_bailiffs_49 mV_X1_howManyDays lm_X10_241 hC_2 rfl rfl rfl (Nat.le_of_ble_eq_true rfl) (CallI.mono h (fun y12 σ11 h => ?_))
        refine wp_iload_n (i := 2) dX10_bailiffs_52 rfl rfl ?_
        refine wp_icmpge (tgt := 62) dX10_bailiffs_53 (by decide) ⟨fun q => ?_, fun q => ?_⟩
        · replace h := h.1 q
          refine wp_aload_n (i := 0) dX10_bailiffs_62 rfl rfl ?_
          refine wp_getR (t := 52) dX10_bailiffs_63 lf_X10_29 hC_0 rfl ?_
          refine wp_aload_n (i := 0) dX10_bailiffs_66 rfl rfl ?_
          refine wp_getR (t := 1) dX10_bailiffs_67 lf_X10_10 hC_0 rfl ?_
          refine wp_iload_n (i := 1) dX10_bailiffs_70 rfl rfl ?_
          refine wp_iload_n (i := 2) dX10_bailiffs_71 rfl rfl ?_
          refine wp_callVI (vs := [.ref 1, .int x1, .int x2]) (rest := []) dX10_bailiffs_72 mV_X7_takenByBailiffs lm_X10_244 hC_52 rfl rfl rfl (Nat.le_of_ble_eq_true rfl) (CallI.mono h (fun y14 σ13 h => ?_))
          refine wp_istore (i := 4) (Lo' := [some (.ref 0), some (.int x1), some (.int x2), some (.int x3), some (.int y14)]) dX10_bailiffs_75 (by decide) rfl rfl ?_
          refine wp_iload_n (i := 3) dX10_bailiffs_77 rfl rfl ?_
          rcases Classical.em (x3 = (-2 : Int32)) with q0 | q0
          · replace h := h.1 q0
            refine wp_lsw (off := 26) (tgt := 104) dX10_bailiffs_78 (by decide) (by rw [q0]; decide) (by decide) ?_
            refine wp_aload_n (i := 0) dX10_bailiffs_104 rfl rfl ?_
            refine wp_getR (t := 52) dX10_bailiffs_105 lf_X10_29 hC_0 rfl ?_
            refine wp_iload (i := 4) dX10_bailiffs_108 rfl ?_
            refine wp_callVI (vs := [.int y14]) (rest := []) dX10_bailiffs_110 mV_X7_pricesOf lm_X10_247 hC_52 rfl rfl rfl (Nat.le_of_ble_eq_true rfl) (CallI.mono h (fun y18 σ17 h => ?_))
            exact wp_ireturn dX10_bailiffs_113 rfl ⟨_, rfl, h⟩
          rcases Classical.em (x3 = (-1 : Int32)) with q1 | q1
          · replace h := h.2.1 q1
            refine wp_lsw (off := 36) (tgt := 114) dX10_bailiffs_78 (by decide) (by rw [q1]; decide) (by decide) ?_
            refine wp_aload_n (i := 0) dX10_bailiffs_114 rfl rfl ?_
            refine wp_getR (t := 1) dX10_bailiffs_115 lf_X10_10 hC_0 rfl ?_
            refine wp_getR (t := 8) dX10_bailiffs_118 lf_X10_141 hC_1 rfl ?_
            refine wp_aload_n (i := 0) dX10_bailiffs_121 rfl rfl ?_
            refine wp_getR (t := 1) dX10_bailiffs_122 lf_X10_10 hC_0 rfl ?_
            refine wp_getR (t := 2) dX10_bailiffs_125 lf_X10_66 hC_1 rfl ?_
            refine wp_callVI (vs := [.ref 2]) (rest := []) dX10_bailiffs_128 mV_X2_howManyUnkept lm_X10_250 hC_8 rfl rfl rfl (Nat.le_of_ble_eq_true rfl) (CallI.mono h (fun y20 σ19 h => ?_))
            refine wp_aload_n (i := 0) dX10_bailiffs_131 rfl rfl ?_
            refine wp_getR (t := 52) dX10_bailiffs_132 lf_X10_29 hC_0 rfl ?_
            refine wp_iload (i := 4) dX10_bailiffs_135 rfl ?_
            refine wp_callVI (vs := [.int y14]) (rest := [.int y20]) dX10_bailiffs_137 mV_X7_harmsOf lm_X10_253 hC_52 rfl rfl rfl (Nat.le_of_ble_eq_true rfl) (CallI.mono h (fun y22 σ21 h => ?_))
            refine wp_iadd dX10_bailiffs_140 ?_
            exact wp_ireturn dX10_bailiffs_141 rfl ⟨_, rfl, h⟩
          replace h := h.2.2 q0 q1
          refine wp_lsw (off := 64) (tgt := 142) dX10_bailiffs_78 (by decide) ((lv_osw q0 (show (((-2 : Int32)) : Int32).toInt = -2 by decide)).trans ((lv_osw q1 (show (((-1 : Int32)) : Int32).toInt = -1 by decide)).trans rfl)) (by decide) ?_
          refine wp_iload (i := 4) dX10_bailiffs_142 rfl ?_
          refine wp_iload_n (i := 3) dX10_bailiffs_144 rfl rfl ?_
          refine wp_callSI (vs := [.int y14, .int x3]) (rest := []) dX10_bailiffs_145 mS_X7_memberOf lm_X10_256 rfl rfl (Nat.le_of_ble_eq_true rfl) (CallI.mono h (fun y16 σ15 h => ?_))
          exact wp_ireturn dX10_bailiffs_148 rfl ⟨_, rfl, h⟩
        · replace h := h.2 q
          refine wp_aload_n (i := 0) dX10_bailiffs_56 rfl rfl ?_
          refine wp_iconst (v := nI 2) dX10_bailiffs_57 rfl ?_
          refine wp_callVI (vs := [.int (nI 2)]) (rest := []) dX10_bailiffs_58 mV_X10_error lm_X10_62 hC_0 rfl rfl rfl (Nat.le_of_ble_eq_true rfl) (CallI.mono h (fun y24 σ23 h => ?_))
          exact wp_ireturn dX10_bailiffs_61 rfl ⟨_, rfl, h⟩
      · replace h := h.2 q
        refine wp_aload_n (i := 0) dX10_bailiffs_35 rfl rfl ?_
        refine wp_iconst (v := nI 1) dX10_bailiffs_36 rfl ?_
        refine wp_callVI (vs := [.int (nI 1)]) (rest := []) dX10_bailiffs_37 mV_X10_error lm_X10_62 hC_0 rfl rfl rfl (Nat.le_of_ble_eq_true rfl) (CallI.mono h (fun y26 σ25 h => ?_))
        exact wp_ireturn dX10_bailiffs_40 rfl ⟨_, rfl, h⟩
set_option maxRecDepth 20000 in
set_option maxHeartbeats 2000000 in
theorem vc_SD_odds {E : KE} {d : Nat} {x1 : Int32} {x2 : Int32} {σ : Sg} {K : Int32 → Sg → Prop} (h : CallI E shC d mX1_knows [.ref 2, .int x1] σ (fun y2 σ1 => (y2 = 0 → CallI E shC d mX10_error [.ref 0, .int (nI 1)] σ1 (fun y4 σ3 => K y4 σ3)) ∧ (¬ y2 = 0 → CallI E shC d mX10_isWithin [.int x2, .int (nI 0), .int (nI 1)] σ1 (fun y6 σ5 => (¬ y6 = 0 → CallI E shC d mX1_upDays [.ref 2, .int x1] σ5 (fun y8 σ7 => CallI E shC d mJ6_bitCount_0f7a4 [.int y8] σ7 (fun y10 σ9 => (¬ x2 = 0 → CallI E shC d mX7_commonDivisor [.int y10] σ9 (fun y12 σ11 => ¬ y12 = 0 ∧ (K ((nI 28) / y12) σ11))) ∧ (x2 = 0 → CallI E shC d mX7_commonDivisor [.int y10] σ9 (fun y14 σ13 => ¬ y14 = 0 ∧ (K (y10 / y14) σ13)))))) ∧ (y6 = 0 → CallI E shC d mX10_error [.ref 0, .int (nI 1)] σ5 (fun y16 σ15 => K y16 σ15)))))) : CallI E shC (d + 1) mX10_odds [.ref 0, .int x1, .int x2] σ K := by
  refine wp_enter (Lo := [some (.ref 0), some (.int x1), some (.int x2), none]) mp_X10_odds (Nat.le_of_ble_eq_true rfl) rfl ?_
  refine wp_aload_n (i := 0) dX10_odds_0 rfl rfl ?_
  refine wp_getR (t := 1) dX10_odds_1 lf_X10_10 hC_0 rfl ?_
  refine wp_getR (t := 2) dX10_odds_4 lf_X10_66 hC_1 rfl ?_
  refine wp_iload_n (i := 1) dX10_odds_7 rfl rfl ?_
  refine wp_callVI (vs := [.int x1]) (rest := []) dX10_odds_8 mV_X1_knows lm_X10_78 hC_2 rfl rfl rfl (Nat.le_of_ble_eq_true rfl) (CallI.mono h (fun y2 σ1 h => ?_))
  refine wp_ifeq (tgt := 23) dX10_odds_11 (by decide) ⟨fun q => ?_, fun q => ?_⟩
  · replace h := h.1 q
    refine wp_aload_n (i := 0) dX10_odds_23 rfl rfl ?_
    refine wp_iconst (v := nI 1) dX10_odds_24 rfl ?_
    refine wp_callVI (vs := [.int (nI 1)]) (rest := []) dX10_odds_25 mV_X10_error lm_X10_62 hC_0 rfl rfl rfl (Nat.le_of_ble_eq_true rfl) (CallI.mono h (fun y4 σ3 h => ?_))
    exact wp_ireturn dX10_odds_28 rfl ⟨_, rfl, h⟩
  · replace h := h.2 q
    refine wp_iload_n (i := 2) dX10_odds_14 rfl rfl ?_
    refine wp_iconst (v := nI 0) dX10_odds_15 rfl ?_
    refine wp_iconst (v := nI 1) dX10_odds_16 rfl ?_
    refine wp_callSI (vs := [.int x2, .int (nI 0), .int (nI 1)]) (rest := []) dX10_odds_17 mS_X10_isWithin lm_X10_81 rfl rfl (Nat.le_of_ble_eq_true rfl) (CallI.mono h (fun y6 σ5 h => ?_))
    refine wp_ifne (tgt := 29) dX10_odds_20 (by decide) ⟨fun q => ?_, fun q => ?_⟩
    · replace h := h.1 q
      refine wp_aload_n (i := 0) dX10_odds_29 rfl rfl ?_
      refine wp_getR (t := 1) dX10_odds_30 lf_X10_10 hC_0 rfl ?_
      refine wp_getR (t := 2) dX10_odds_33 lf_X10_66 hC_1 rfl ?_
      refine wp_iload_n (i := 1) dX10_odds_36 rfl rfl ?_
      refine wp_callVI (vs := [.int x1]) (rest := []) dX10_odds_37 mV_X1_upDays lm_X10_225 hC_2 rfl rfl rfl (Nat.le_of_ble_eq_true rfl) (CallI.mono h (fun y8 σ7 h => ?_))
      refine wp_callSI (vs := [.int y8]) (rest := []) dX10_odds_40 mS_J6_bitCount_0f7a4 lm_X10_232 rfl rfl (Nat.le_of_ble_eq_true rfl) (CallI.mono h (fun y10 σ9 h => ?_))
      refine wp_istore_n (i := 3) (Lo' := [some (.ref 0), some (.int x1), some (.int x2), some (.int y10)]) dX10_odds_43 rfl (by decide) rfl rfl ?_
      refine wp_iload_n (i := 2) dX10_odds_44 rfl rfl ?_
      refine wp_ifne (tgt := 52) dX10_odds_45 (by decide) ⟨fun q => ?_, fun q => ?_⟩
      · replace h := h.1 q
        refine wp_bipush (v := nI 28) dX10_odds_52 (by decide) ?_
        refine wp_iload_n (i := 3) dX10_odds_54 rfl rfl ?_
        refine wp_callSI (vs := [.int y10]) (rest := [.int (nI 28)]) dX10_odds_55 mS_X7_commonDivisor lm_X10_259 rfl rfl (Nat.le_of_ble_eq_true rfl) (CallI.mono h (fun y12 σ11 h => ?_))
        refine wp_idiv dX10_odds_58 ⟨h.1, ?_⟩
        replace h := h.2
        exact wp_ireturn dX10_odds_59 rfl ⟨_, rfl, h⟩
      · replace h := h.2 q
        refine wp_iload_n (i := 3) dX10_odds_48 rfl rfl ?_
        refine wp_goto (tgt := 54) dX10_odds_49 (by decide) ?_
        refine wp_iload_n (i := 3) dX10_odds_54 rfl rfl ?_
        refine wp_callSI (vs := [.int y10]) (rest := [.int y10]) dX10_odds_55 mS_X7_commonDivisor lm_X10_259 rfl rfl (Nat.le_of_ble_eq_true rfl) (CallI.mono h (fun y14 σ13 h => ?_))
        refine wp_idiv dX10_odds_58 ⟨h.1, ?_⟩
        replace h := h.2
        exact wp_ireturn dX10_odds_59 rfl ⟨_, rfl, h⟩
    · replace h := h.2 q
      refine wp_aload_n (i := 0) dX10_odds_23 rfl rfl ?_
      refine wp_iconst (v := nI 1) dX10_odds_24 rfl ?_
      refine wp_callVI (vs := [.int (nI 1)]) (rest := []) dX10_odds_25 mV_X10_error lm_X10_62 hC_0 rfl rfl rfl (Nat.le_of_ble_eq_true rfl) (CallI.mono h (fun y16 σ15 h => ?_))
      exact wp_ireturn dX10_odds_28 rfl ⟨_, rfl, h⟩
set_option maxRecDepth 20000 in
set_option maxHeartbeats 2000000 in
theorem vc_Sheets_isMissing {E : KE} {d : Nat} {x1 : Int32} {σ : Sg} {K : Int32 → Sg → Prop} (h : vp_in x1 4 ∧ ((¬ (σ 60 x1.toNatClampNeg) = 0 → K (nI 0) σ) ∧ ((σ 60 x1.toNatClampNeg) = 0 → K (nI 1) σ))) : CallI E shC d mX5_isMissing [.ref 59, .int x1] σ K := by
  refine wp_enter (Lo := [some (.ref 59), some (.int x1)]) mp_X5_isMissing (Nat.le_of_ble_eq_true rfl) rfl ?_
  refine wp_aload_n (i := 0) dX5_isMissing_0 rfl rfl ?_
  refine wp_getR (t := 60) dX5_isMissing_1 lf_X5_9 hC_59 rfl ?_
  refine wp_iload_n (i := 1) dX5_isMissing_4 rfl rfl ?_
  refine wp_iald dX5_isMissing_5 hC_60 ⟨h.1, ?_⟩
  replace h := h.2
  refine wp_ifne (tgt := 13) dX5_isMissing_6 (by decide) ⟨fun q => ?_, fun q => ?_⟩
  · replace h := h.1 q
    refine wp_iconst (v := nI 0) dX5_isMissing_13 rfl ?_
    exact wp_zreturn dX5_isMissing_14 rfl ⟨rfl, _, rfl, h⟩
  · replace h := h.2 q
    refine wp_iconst (v := nI 1) dX5_isMissing_9 rfl ?_
    refine wp_goto (tgt := 14) dX5_isMissing_10 (by decide) ?_
    exact wp_zreturn dX5_isMissing_14 rfl ⟨rfl, _, rfl, h⟩
set_option maxRecDepth 20000 in
set_option maxHeartbeats 2000000 in
theorem vc_Sheets_numberAt {E : KE} {d : Nat} {x1 : Int32} {x2 : Int32} {σ : Sg} {K : Int32 → Sg → Prop} (h : vp_in ((x1 * (nI 24)) + x2) 96 ∧ (K (σ 62 ((x1 * (nI 24)) + x2).toNatClampNeg) σ)) : CallI E shC d mX5_numberAt [.ref 59, .int x1, .int x2] σ K := by
  refine wp_enter (Lo := [some (.ref 59), some (.int x1), some (.int x2)]) mp_X5_numberAt (Nat.le_of_ble_eq_true rfl) rfl ?_
  refine wp_aload_n (i := 0) dX5_numberAt_0 rfl rfl ?_
  refine wp_getR (t := 62) dX5_numberAt_1 lf_X5_18 hC_59 rfl ?_
  refine wp_iload_n (i := 1) dX5_numberAt_4 rfl rfl ?_
  refine wp_bipush (v := nI 24) dX5_numberAt_5 (by decide) ?_
  refine wp_imul dX5_numberAt_7 ?_
  refine wp_iload_n (i := 2) dX5_numberAt_8 rfl rfl ?_
  refine wp_iadd dX5_numberAt_9 ?_
  refine wp_iald dX5_numberAt_10 hC_62 ⟨h.1, ?_⟩
  replace h := h.2
  exact wp_ireturn dX5_numberAt_11 rfl ⟨_, rfl, h⟩
set_option maxRecDepth 20000 in
set_option maxHeartbeats 2000000 in
theorem vb_SD_livesAsTold_2 {E : KE} {d : Nat} {x1 : Int32} {x2 : Int32} {x3 : Int32} {σ : Sg} {K : Int32 → Sg → Prop} (h : vp_in x2 4 ∧ (((σ 61 x2.toNatClampNeg) ≤ x3 → K (nI 1) σ) ∧ (¬ (σ 61 x2.toNatClampNeg) ≤ x3 → CallI E shC d mX9_dayIn [.ref 1, .int x3] σ (fun y2 σ1 => CallI E shC d mX1_livesOf [.ref 2, .int x1, .int y2] σ1 (fun y4 σ3 => CallI E shC d mX5_numberAt [.ref 59, .int x2, .int x3] σ3 (fun y6 σ5 => (y4 = y6 → WP E shC mX10_livesAsTold (d + 1) 2 [some (.ref 0), some (.int x1), some (.int x2), some (.int (x3 + nI 1))] [] σ5 (k_qi K)) ∧ (¬ y4 = y6 → K (nI 0) σ5))))))) : WP E shC mX10_livesAsTold (d + 1) 2 [some (.ref 0), some (.int x1), some (.int x2), some (.int x3)] [] σ (k_qi K) := by
  refine wp_iload_n (i := 3) dX10_livesAsTold_2 rfl rfl ?_
  refine wp_aload_n (i := 0) dX10_livesAsTold_3 rfl rfl ?_
  refine wp_getR (t := 59) dX10_livesAsTold_4 lf_X10_43 hC_0 rfl ?_
  refine wp_getR (t := 61) dX10_livesAsTold_7 lf_X10_271 hC_59 rfl ?_
  refine wp_iload_n (i := 2) dX10_livesAsTold_10 rfl rfl ?_
  refine wp_iald dX10_livesAsTold_11 hC_61 ⟨h.1, ?_⟩
  replace h := h.2
  refine wp_icmpge (tgt := 54) dX10_livesAsTold_12 (by decide) ⟨fun q => ?_, fun q => ?_⟩
  · replace h := h.1 q
    refine wp_iconst (v := nI 1) dX10_livesAsTold_54 rfl ?_
    exact wp_zreturn dX10_livesAsTold_55 rfl ⟨rfl, _, rfl, h⟩
  · replace h := h.2 q
    refine wp_aload_n (i := 0) dX10_livesAsTold_15 rfl rfl ?_
    refine wp_getR (t := 1) dX10_livesAsTold_16 lf_X10_10 hC_0 rfl ?_
    refine wp_getR (t := 2) dX10_livesAsTold_19 lf_X10_66 hC_1 rfl ?_
    refine wp_iload_n (i := 1) dX10_livesAsTold_22 rfl rfl ?_
    refine wp_aload_n (i := 0) dX10_livesAsTold_23 rfl rfl ?_
    refine wp_getR (t := 1) dX10_livesAsTold_24 lf_X10_10 hC_0 rfl ?_
    refine wp_iload_n (i := 3) dX10_livesAsTold_27 rfl rfl ?_
    refine wp_callVI (vs := [.int x3]) (rest := [.int x1, .ref 2]) dX10_livesAsTold_28 mV_X9_dayIn lm_X10_97 hC_1 rfl rfl rfl (Nat.le_of_ble_eq_true rfl) (CallI.mono h (fun y2 σ1 h => ?_))
    refine wp_callVI (vs := [.int x1, .int y2]) (rest := []) dX10_livesAsTold_31 mV_X1_livesOf lm_X10_100 hC_2 rfl rfl rfl (Nat.le_of_ble_eq_true rfl) (CallI.mono h (fun y4 σ3 h => ?_))
    refine wp_aload_n (i := 0) dX10_livesAsTold_34 rfl rfl ?_
    refine wp_getR (t := 59) dX10_livesAsTold_35 lf_X10_43 hC_0 rfl ?_
    refine wp_iload_n (i := 2) dX10_livesAsTold_38 rfl rfl ?_
    refine wp_iload_n (i := 3) dX10_livesAsTold_39 rfl rfl ?_
    refine wp_callVI (vs := [.int x2, .int x3]) (rest := [.int y4]) dX10_livesAsTold_40 mV_X5_numberAt lm_X10_274 hC_59 rfl rfl rfl (Nat.le_of_ble_eq_true rfl) (CallI.mono h (fun y6 σ5 h => ?_))
    refine wp_icmpeq (tgt := 48) dX10_livesAsTold_43 (by decide) ⟨fun q => ?_, fun q => ?_⟩
    · replace h := h.1 q
      refine wp_iinc (i := 3) (v := x3 + nI 1) (Lo' := [some (.ref 0), some (.int x1), some (.int x2), some (.int (x3 + nI 1))]) dX10_livesAsTold_48 rfl (by rfl) (by decide) rfl rfl ?_
      refine wp_goto (tgt := 2) dX10_livesAsTold_51 (by decide) ?_
      exact wp_mask [true, true, true, true] h
    · replace h := h.2 q
      refine wp_iconst (v := nI 0) dX10_livesAsTold_46 rfl ?_
      exact wp_zreturn dX10_livesAsTold_47 rfl ⟨rfl, _, rfl, h⟩
set_option maxRecDepth 20000 in
set_option maxHeartbeats 2000000 in
theorem vc_SD_livesAsTold {E : KE} {d : Nat} {x1 : Int32} {x2 : Int32} {σ : Sg} {K : Int32 → Sg → Prop} (h : WP E shC mX10_livesAsTold (d + 1) 2 [some (.ref 0), some (.int x1), some (.int x2), some (.int (nI 0))] [] σ (k_qi K)) : CallI E shC (d + 1) mX10_livesAsTold [.ref 0, .int x1, .int x2] σ K := by
  refine wp_enter (Lo := [some (.ref 0), some (.int x1), some (.int x2), none]) mp_X10_livesAsTold (Nat.le_of_ble_eq_true rfl) rfl ?_
  refine wp_iconst (v := nI 0) dX10_livesAsTold_0 rfl ?_
  refine wp_istore_n (i := 3) (Lo' := [some (.ref 0), some (.int x1), some (.int x2), some (.int (nI 0))]) dX10_livesAsTold_1 rfl (by decide) rfl rfl ?_
  exact wp_mask [true, true, true, true] h
set_option maxRecDepth 20000 in
set_option maxHeartbeats 2000000 in
theorem vb_SD_fits_34 {E : KE} {d : Nat} {x1 : Int32} {x2 : Int32} {x3 : Int32} {σ : Sg} {K : Int32 → Sg → Prop} (h : ((σ 2 5) ≤ x3 → K x2 σ) ∧ (¬ (σ 2 5) ≤ x3 → CallI E shC d mX10_livesAsTold [.ref 0, .int x3, .int x1] σ (fun y2 σ1 => (y2 = 0 → WP E shC mX10_fits (d + 1) 34 [some (.ref 0), some (.int x1), some (.int x2), some (.int (x3 + nI 1))] [] σ1 (k_qi K)) ∧ (¬ y2 = 0 → WP E shC mX10_fits (d + 1) 34 [some (.ref 0), some (.int x1), some (.int (x2 ||| ((nI 1) <<< (x3 &&& 31)))), some (.int (x3 + nI 1))] [] σ1 (k_qi K))))) : WP E shC mX10_fits (d + 1) 34 [some (.ref 0), some (.int x1), some (.int x2), some (.int x3)] [] σ (k_qi K) := by
  refine wp_iload_n (i := 3) dX10_fits_34 rfl rfl ?_
  refine wp_aload_n (i := 0) dX10_fits_35 rfl rfl ?_
  refine wp_getR (t := 1) dX10_fits_36 lf_X10_10 hC_0 rfl ?_
  refine wp_getR (t := 2) dX10_fits_39 lf_X10_66 hC_1 rfl ?_
  refine wp_getI dX10_fits_42 lf_X10_70 hC_2 rfl ?_
  refine wp_icmpge (tgt := 69) dX10_fits_45 (by decide) ⟨fun q => ?_, fun q => ?_⟩
  · replace h := h.1 q
    refine wp_iload_n (i := 2) dX10_fits_69 rfl rfl ?_
    exact wp_ireturn dX10_fits_70 rfl ⟨_, rfl, h⟩
  · replace h := h.2 q
    refine wp_aload_n (i := 0) dX10_fits_48 rfl rfl ?_
    refine wp_iload_n (i := 3) dX10_fits_49 rfl rfl ?_
    refine wp_iload_n (i := 1) dX10_fits_50 rfl rfl ?_
    refine wp_callVI (vs := [.int x3, .int x1]) (rest := []) dX10_fits_51 mV_X10_livesAsTold lm_X10_268 hC_0 rfl rfl rfl (Nat.le_of_ble_eq_true rfl) (CallI.mono h (fun y2 σ1 h => ?_))
    refine wp_ifeq (tgt := 63) dX10_fits_54 (by decide) ⟨fun q => ?_, fun q => ?_⟩
    · replace h := h.1 q
      refine wp_iinc (i := 3) (v := x3 + nI 1) (Lo' := [some (.ref 0), some (.int x1), some (.int x2), some (.int (x3 + nI 1))]) dX10_fits_63 rfl (by rfl) (by decide) rfl rfl ?_
      refine wp_goto (tgt := 34) dX10_fits_66 (by decide) ?_
      exact wp_mask [true, true, true, true] h
    · replace h := h.2 q
      refine wp_iload_n (i := 2) dX10_fits_57 rfl rfl ?_
      refine wp_iconst (v := nI 1) dX10_fits_58 rfl ?_
      refine wp_iload_n (i := 3) dX10_fits_59 rfl rfl ?_
      refine wp_ishl dX10_fits_60 ?_
      refine wp_ior dX10_fits_61 ?_
      refine wp_istore_n (i := 2) (Lo' := [some (.ref 0), some (.int x1), some (.int (x2 ||| ((nI 1) <<< (x3 &&& 31)))), some (.int x3)]) dX10_fits_62 rfl (by decide) rfl rfl ?_
      refine wp_iinc (i := 3) (v := x3 + nI 1) (Lo' := [some (.ref 0), some (.int x1), some (.int (x2 ||| ((nI 1) <<< (x3 &&& 31)))), some (.int (x3 + nI 1))]) dX10_fits_63 rfl (by rfl) (by decide) rfl rfl ?_
      refine wp_goto (tgt := 34) dX10_fits_66 (by decide) ?_
      exact wp_mask [true, true, true, true] h
set_option maxRecDepth 20000 in
set_option maxHeartbeats 2000000 in
theorem vc_SD_fits {E : KE} {d : Nat} {x1 : Int32} {σ : Sg} {K : Int32 → Sg → Prop} (h : CallI E shC d mX5_isSheet [.int x1] σ (fun y2 σ1 => (¬ y2 = 0 → CallI E shC d mX5_isMissing [.ref 59, .int x1] σ1 (fun y4 σ3 => (y4 = 0 → WP E shC mX10_fits (d + 1) 34 [some (.ref 0), some (.int x1), some (.int (nI 0)), some (.int (nI 0))] [] σ3 (k_qi K)) ∧ (¬ y4 = 0 → CallI E shC d mX10_error [.ref 0, .int (nI 2)] σ3 (fun y6 σ5 => K y6 σ5)))) ∧ (y2 = 0 → CallI E shC d mX10_error [.ref 0, .int (nI 1)] σ1 (fun y8 σ7 => K y8 σ7)))) : CallI E shC (d + 1) mX10_fits [.ref 0, .int x1] σ K := by
  refine wp_enter (Lo := [some (.ref 0), some (.int x1), none, none]) mp_X10_fits (Nat.le_of_ble_eq_true rfl) rfl ?_
  refine wp_iload_n (i := 1) dX10_fits_0 rfl rfl ?_
  refine wp_callSI (vs := [.int x1]) (rest := []) dX10_fits_1 mS_X5_isSheet lm_X10_262 rfl rfl (Nat.le_of_ble_eq_true rfl) (CallI.mono h (fun y2 σ1 h => ?_))
  refine wp_ifne (tgt := 13) dX10_fits_4 (by decide) ⟨fun q => ?_, fun q => ?_⟩
  · replace h := h.1 q
    refine wp_aload_n (i := 0) dX10_fits_13 rfl rfl ?_
    refine wp_getR (t := 59) dX10_fits_14 lf_X10_43 hC_0 rfl ?_
    refine wp_iload_n (i := 1) dX10_fits_17 rfl rfl ?_
    refine wp_callVI (vs := [.int x1]) (rest := []) dX10_fits_18 mV_X5_isMissing lm_X10_265 hC_59 rfl rfl rfl (Nat.le_of_ble_eq_true rfl) (CallI.mono h (fun y4 σ3 h => ?_))
    refine wp_ifeq (tgt := 30) dX10_fits_21 (by decide) ⟨fun q => ?_, fun q => ?_⟩
    · replace h := h.1 q
      refine wp_iconst (v := nI 0) dX10_fits_30 rfl ?_
      refine wp_istore_n (i := 2) (Lo' := [some (.ref 0), some (.int x1), some (.int (nI 0)), none]) dX10_fits_31 rfl (by decide) rfl rfl ?_
      refine wp_iconst (v := nI 0) dX10_fits_32 rfl ?_
      refine wp_istore_n (i := 3) (Lo' := [some (.ref 0), some (.int x1), some (.int (nI 0)), some (.int (nI 0))]) dX10_fits_33 rfl (by decide) rfl rfl ?_
      exact wp_mask [true, true, true, true] h
    · replace h := h.2 q
      refine wp_aload_n (i := 0) dX10_fits_24 rfl rfl ?_
      refine wp_iconst (v := nI 2) dX10_fits_25 rfl ?_
      refine wp_callVI (vs := [.int (nI 2)]) (rest := []) dX10_fits_26 mV_X10_error lm_X10_62 hC_0 rfl rfl rfl (Nat.le_of_ble_eq_true rfl) (CallI.mono h (fun y6 σ5 h => ?_))
      exact wp_ireturn dX10_fits_29 rfl ⟨_, rfl, h⟩
  · replace h := h.2 q
    refine wp_aload_n (i := 0) dX10_fits_7 rfl rfl ?_
    refine wp_iconst (v := nI 1) dX10_fits_8 rfl ?_
    refine wp_callVI (vs := [.int (nI 1)]) (rest := []) dX10_fits_9 mV_X10_error lm_X10_62 hC_0 rfl rfl rfl (Nat.le_of_ble_eq_true rfl) (CallI.mono h (fun y8 σ7 h => ?_))
    exact wp_ireturn dX10_fits_12 rfl ⟨_, rfl, h⟩
set_option maxRecDepth 20000 in
set_option maxHeartbeats 2000000 in
theorem vc_Row_add_57 {E : KE} {d : Nat} {x1 : Int32} {σ : Sg} {K : Sg → Prop} (h : ((nI 30) ≤ (σ 57 1) → K σ) ∧ (¬ (nI 30) ≤ (σ 57 1) → vp_in (σ 57 1) 30 ∧ (∀ σ1, σ1 = k_put σ 58 (upd (σ 58) (σ 57 1).toNatClampNeg x1) → ∀ σ3, σ3 = k_put σ1 57 (upd (σ1 57) 1 ((σ1 57 1) + (nI 1))) → K σ3))) : CallN E shC d mX4_add [.ref 57, .int x1] σ K := by
  refine wp_enter (Lo := [some (.ref 57), some (.int x1)]) mp_X4_add (Nat.le_of_ble_eq_true rfl) rfl ?_
  refine wp_aload_n (i := 0) dX4_add_0 rfl rfl ?_
  refine wp_getI dX4_add_1 lf_X4_13 hC_57 rfl ?_
  refine wp_aload_n (i := 0) dX4_add_4 rfl rfl ?_
  refine wp_getR (t := 58) dX4_add_5 lf_X4_7 hC_57 rfl ?_
  refine wp_alen dX4_add_8 hC_58 ?_
  refine wp_icmpge (tgt := 32) dX4_add_9 (by decide) ⟨fun q => ?_, fun q => ?_⟩
  · replace h := h.1 q
    exact wp_return dX4_add_32 rfl ⟨rfl, h⟩
  · replace h := h.2 q
    refine wp_aload_n (i := 0) dX4_add_12 rfl rfl ?_
    refine wp_getR (t := 58) dX4_add_13 lf_X4_7 hC_57 rfl ?_
    refine wp_aload_n (i := 0) dX4_add_16 rfl rfl ?_
    refine wp_getI dX4_add_17 lf_X4_13 hC_57 rfl ?_
    refine wp_iload_n (i := 1) dX4_add_20 rfl rfl ?_
    refine wp_iast dX4_add_21 hC_58 ⟨h.1, ?_⟩
    refine wp_nm (fun σ1 e2 => ?_)
    replace h := h.2 σ1 e2
    refine wp_aload_n (i := 0) dX4_add_22 rfl rfl ?_
    refine wp_dup dX4_add_23 rfl ?_
    refine wp_getI dX4_add_24 lf_X4_13 hC_57 rfl ?_
    refine wp_iconst (v := nI 1) dX4_add_27 rfl ?_
    refine wp_iadd dX4_add_28 ?_
    refine wp_put dX4_add_29 lp_X4_13 hC_57 rfl ⟨⟨rfl, rfl⟩, ?_⟩
    refine wp_nm (fun σ3 e4 => ?_)
    replace h := h σ3 e4
    exact wp_return dX4_add_32 rfl ⟨rfl, h⟩
set_option maxRecDepth 20000 in
set_option maxHeartbeats 2000000 in
theorem vc_Voices_part {E : KE} {d : Nat} {x1 : Int32} {x2 : Int32} {σ : Sg} {K : Int32 → Sg → Prop} (h : (¬ x2 = 0 → ¬ x2 = 0 ∧ (K (x1 / x2) σ)) ∧ (x2 = 0 → ∀ σ1, σ1 = k_put σ 56 (upd (σ 56) 1 (nI 1)) → K (nI 0) σ1)) : CallI E shC d mX8_part [.ref 56, .int x1, .int x2] σ K := by
  refine wp_enter (Lo := [some (.ref 56), some (.int x1), some (.int x2)]) mp_X8_part (Nat.le_of_ble_eq_true rfl) rfl ?_
  refine wp_iload_n (i := 2) dX8_part_0 rfl rfl ?_
  refine wp_ifne (tgt := 11) dX8_part_1 (by decide) ⟨fun q => ?_, fun q => ?_⟩
  · replace h := h.1 q
    refine wp_iload_n (i := 1) dX8_part_11 rfl rfl ?_
    refine wp_iload_n (i := 2) dX8_part_12 rfl rfl ?_
    refine wp_idiv dX8_part_13 ⟨h.1, ?_⟩
    replace h := h.2
    exact wp_ireturn dX8_part_14 rfl ⟨_, rfl, h⟩
  · replace h := h.2 q
    refine wp_aload_n (i := 0) dX8_part_4 rfl rfl ?_
    refine wp_iconst (v := nI 1) dX8_part_5 rfl ?_
    refine wp_put dX8_part_6 lp_X8_20 hC_56 rfl ⟨⟨rfl, rfl⟩, ?_⟩
    refine wp_nm (fun σ1 e2 => ?_)
    replace h := h σ1 e2
    refine wp_iconst (v := nI 0) dX8_part_9 rfl ?_
    exact wp_ireturn dX8_part_10 rfl ⟨_, rfl, h⟩
set_option maxRecDepth 20000 in
set_option maxHeartbeats 2000000 in
theorem vc_Voices_partAndTrade {E : KE} {d : Nat} {x1 : Int32} {x2 : Int32} {x3 : Int32} {σ : Sg} {K : Int32 → Sg → Prop} (h : CallI E shC d mX8_sound [.ref 56, .int x1, .int (nI 3), .int x2, .int x3] σ (fun y2 σ1 => ((σ1 56 1) = 0 → CallI E shC d mX8_own [.ref 56, .int (nI 1), .int (nI 1), .int x3] σ1 (fun y4 σ3 => K (y2 + y4) σ3)) ∧ (¬ (σ1 56 1) = 0 → K (nI 0) σ1))) : CallI E shC (d + 1) mX8_partAndTrade [.ref 56, .int x1, .int x2, .int x3] σ K := by
  refine wp_enter (Lo := [some (.ref 56), some (.int x1), some (.int x2), some (.int x3), none]) mp_X8_partAndTrade (Nat.le_of_ble_eq_true rfl) rfl ?_
  refine wp_aload_n (i := 0) dX8_partAndTrade_0 rfl rfl ?_
  refine wp_iload_n (i := 1) dX8_partAndTrade_1 rfl rfl ?_
  refine wp_iconst (v := nI 3) dX8_partAndTrade_2 rfl ?_
  refine wp_iload_n (i := 2) dX8_partAndTrade_3 rfl rfl ?_
  refine wp_iload_n (i := 3) dX8_partAndTrade_4 rfl rfl ?_
  refine wp_callVI (vs := [.int x1, .int (nI 3), .int x2, .int x3]) (rest := []) dX8_partAndTrade_5 mV_X8_sound lm_X8_50 hC_56 rfl rfl rfl (Nat.le_of_ble_eq_true rfl) (CallI.mono h (fun y2 σ1 h => ?_))
  refine wp_istore (i := 4) (Lo' := [some (.ref 56), some (.int x1), some (.int x2), some (.int x3), some (.int y2)]) dX8_partAndTrade_8 (by decide) rfl rfl ?_
  refine wp_aload_n (i := 0) dX8_partAndTrade_10 rfl rfl ?_
  refine wp_getI dX8_partAndTrade_11 lf_X8_20 hC_56 rfl ?_
  refine wp_ifeq (tgt := 21) dX8_partAndTrade_14 (by decide) ⟨fun q => ?_, fun q => ?_⟩
  · replace h := h.1 q
    refine wp_iload (i := 4) dX8_partAndTrade_21 rfl ?_
    refine wp_aload_n (i := 0) dX8_partAndTrade_23 rfl rfl ?_
    refine wp_iconst (v := nI 1) dX8_partAndTrade_24 rfl ?_
    refine wp_iconst (v := nI 1) dX8_partAndTrade_25 rfl ?_
    refine wp_iload_n (i := 3) dX8_partAndTrade_26 rfl rfl ?_
    refine wp_callVI (vs := [.int (nI 1), .int (nI 1), .int x3]) (rest := [.int y2]) dX8_partAndTrade_27 mV_X8_own lm_X8_46 hC_56 rfl rfl rfl (Nat.le_of_ble_eq_true rfl) (CallI.mono h (fun y4 σ3 h => ?_))
    refine wp_iadd dX8_partAndTrade_30 ?_
    exact wp_ireturn dX8_partAndTrade_31 rfl ⟨_, rfl, h⟩
  · replace h := h.2 q
    refine wp_iconst (v := nI 0) dX8_partAndTrade_17 rfl ?_
    refine wp_goto (tgt := 31) dX8_partAndTrade_18 (by decide) ?_
    exact wp_ireturn dX8_partAndTrade_31 rfl ⟨_, rfl, h⟩
set_option maxRecDepth 20000 in
set_option maxHeartbeats 2000000 in
theorem vc_Voices_sound {E : KE} {d : Nat} {x1 : Int32} {x2 : Int32} {x3 : Int32} {x4 : Int32} {σ : Sg} {K : Int32 → Sg → Prop} (h : (x4 ≤ (nI 12) → CallI E shC d mX0_speaker [.int x1, .int x2] σ (fun y2 σ1 => CallI E shC d mX0_above [.int y2] σ1 (fun y4 σ3 => CallI E shC d mX0_bodyOf [.int y2, .int x2] σ3 (fun y6 σ5 => CallN E shC d mX4_add [.ref 57, .int y6] σ5 (fun σ7 => (y6 = nI 10 → K (x3 + (σ7 56 3)) σ7) ∧ (y6 = nI 11 → CallI E shC d mX8_own [.ref 56, .int (nI 0), .int x3, .int (x4 + (nI 1))] σ7 (fun y9 σ8 => K (y9 * (nI 2)) σ8)) ∧ (y6 = nI 12 → CallI E shC d mX8_own [.ref 56, .int (nI 1), .int x3, .int (x4 + (nI 1))] σ7 (fun y11 σ10 => K (y11 - (σ10 56 4)) σ10)) ∧ (y6 = nI 13 → CallI E shC d mX8_part [.ref 56, .int x3, .int ((σ7 56 4) - (σ7 56 3))] σ7 (fun y13 σ12 => K y13 σ12)) ∧ (y6 = nI 20 → CallI E shC d mX8_sound [.ref 56, .int y4, .int (nI 0), .int x3, .int (x4 + (nI 1))] σ7 (fun y15 σ14 => K (y15 - (nI 4)) σ14)) ∧ (y6 = nI 21 → CallI E shC d mX8_partAndTrade [.ref 56, .int y4, .int x3, .int (x4 + (nI 1))] σ7 (fun y17 σ16 => K y17 σ16)) ∧ (y6 = nI 30 → CallI E shC d mX8_sound [.ref 56, .int y4, .int (nI 1), .int x3, .int (x4 + (nI 1))] σ7 (fun y19 σ18 => K ((nI 0) - y19) σ18)) ∧ (y6 = nI 40 → CallI E shC d mX8_sound [.ref 56, .int y4, .int (nI 2), .int (x3 / (nI 2)), .int (x4 + (nI 1))] σ7 (fun y21 σ20 => K y21 σ20)) ∧ (y6 = nI 50 → CallI E shC d mX8_sound [.ref 56, .int y4, .int (nI 0), .int x3, .int (x4 + (nI 1))] σ7 (fun y23 σ22 => K (y23 * (nI 3)) σ22)) ∧ (y6 = nI 51 → CallI E shC d mX8_sound [.ref 56, .int y4, .int (nI 2), .int x3, .int (x4 + (nI 1))] σ7 (fun y25 σ24 => K (y25 ^^^ (σ24 56 3)) σ24)) ∧ (y6 = nI 60 → CallI E shC d mX8_sound [.ref 56, .int y4, .int (nI 1), .int (x3 + (nI 1)), .int (x4 + (nI 1))] σ7 (fun y27 σ26 => K y27 σ26)) ∧ (y6 = nI 70 → K (nI 9) σ7) ∧ (y6 = nI 71 → CallI E shC d mX8_sound [.ref 56, .int y4, .int (nI 1), .int x3, .int (x4 + (nI 1))] σ7 (fun y29 σ28 => K (y29 + (σ28 56 4)) σ28)) ∧ (¬ y6 = nI 10 → ¬ y6 = nI 11 → ¬ y6 = nI 12 → ¬ y6 = nI 13 → ¬ y6 = nI 20 → ¬ y6 = nI 21 → ¬ y6 = nI 30 → ¬ y6 = nI 40 → ¬ y6 = nI 50 → ¬ y6 = nI 51 → ¬ y6 = nI 60 → ¬ y6 = nI 70 → ¬ y6 = nI 71 → K (nI 0) σ7)))))) ∧ (¬ x4 ≤ (nI 12) → K (nI 0) σ)) : CallI E shC (d + 1) mX8_sound [.ref 56, .int x1, .int x2, .int x3, .int x4] σ K := by
  refine wp_enter (Lo := [some (.ref 56), some (.int x1), some (.int x2), some (.int x3), some (.int x4), none, none, none, none]) mp_X8_sound (Nat.le_of_ble_eq_true rfl) rfl ?_
  refine wp_iload (i := 4) dX8_sound_0 rfl ?_
  refine wp_bipush (v := nI 12) dX8_sound_2 (by decide) ?_
  refine wp_icmple (tgt := 9) dX8_sound_4 (by decide) ⟨fun q => ?_, fun q => ?_⟩
  · replace h := h.1 q
    refine wp_iload_n (i := 1) dX8_sound_9 rfl rfl ?_
    refine wp_iload_n (i := 2) dX8_sound_10 rfl rfl ?_
    refine wp_callSI (vs := [.int x1, .int x2]) (rest := []) dX8_sound_11 mS_X0_speaker lm_X8_54 rfl rfl (Nat.le_of_ble_eq_true rfl) (CallI.mono h (fun y2 σ1 h => ?_))
    refine wp_istore (i := 5) (Lo' := [some (.ref 56), some (.int x1), some (.int x2), some (.int x3), some (.int x4), some (.int y2), none, none, none]) dX8_sound_14 (by decide) rfl rfl ?_
    refine wp_iload (i := 5) dX8_sound_16 rfl ?_
    refine wp_callSI (vs := [.int y2]) (rest := []) dX8_sound_18 mS_X0_above lm_X8_60 rfl rfl (Nat.le_of_ble_eq_true rfl) (CallI.mono h (fun y4 σ3 h => ?_))
    refine wp_istore (i := 6) (Lo' := [some (.ref 56), some (.int x1), some (.int x2), some (.int x3), some (.int x4), some (.int y2), some (.int y4), none, none]) dX8_sound_21 (by decide) rfl rfl ?_
    refine wp_iload (i := 5) dX8_sound_23 rfl ?_
    refine wp_iload_n (i := 2) dX8_sound_25 rfl rfl ?_
    refine wp_callSI (vs := [.int y2, .int x2]) (rest := []) dX8_sound_26 mS_X0_bodyOf lm_X8_64 rfl rfl (Nat.le_of_ble_eq_true rfl) (CallI.mono h (fun y6 σ5 h => ?_))
    refine wp_istore (i := 7) (Lo' := [some (.ref 56), some (.int x1), some (.int x2), some (.int x3), some (.int x4), some (.int y2), some (.int y4), some (.int y6), none]) dX8_sound_29 (by decide) rfl rfl ?_
    refine wp_iload (i := 4) dX8_sound_31 rfl ?_
    refine wp_iconst (v := nI 1) dX8_sound_33 rfl ?_
    refine wp_iadd dX8_sound_34 ?_
    refine wp_istore (i := 8) (Lo' := [some (.ref 56), some (.int x1), some (.int x2), some (.int x3), some (.int x4), some (.int y2), some (.int y4), some (.int y6), some (.int (x4 + (nI 1)))]) dX8_sound_35 (by decide) rfl rfl ?_
    refine wp_aload_n (i := 0) dX8_sound_37 rfl rfl ?_
    refine wp_getR (t := 57) dX8_sound_38 lf_X8_14 hC_56 rfl ?_
    refine wp_iload (i := 7) dX8_sound_41 rfl ?_
    refine wp_callVN (vs := [.int y6]) (rest := []) dX8_sound_43 mV_X4_add lm_X8_67 hC_57 rfl rfl rfl (Nat.le_of_ble_eq_true rfl) (CallN.mono h (fun σ7 h => ?_))
    refine wp_iload (i := 7) dX8_sound_46 rfl ?_
    rcases Classical.em (y6 = nI 10) with q0 | q0
    · replace h := h.1 q0
      refine wp_lsw (off := 116) (tgt := 164) dX8_sound_48 (by decide) (by rw [q0]; decide) (by decide) ?_
      refine wp_iload_n (i := 3) dX8_sound_164 rfl rfl ?_
      refine wp_aload_n (i := 0) dX8_sound_165 rfl rfl ?_
      refine wp_getI dX8_sound_166 lf_X8_28 hC_56 rfl ?_
      refine wp_iadd dX8_sound_169 ?_
      exact wp_ireturn dX8_sound_170 rfl ⟨_, rfl, h⟩
    rcases Classical.em (y6 = nI 11) with q1 | q1
    · replace h := h.2.1 q1
      refine wp_lsw (off := 123) (tgt := 171) dX8_sound_48 (by decide) (by rw [q1]; decide) (by decide) ?_
      refine wp_aload_n (i := 0) dX8_sound_171 rfl rfl ?_
      refine wp_iconst (v := nI 0) dX8_sound_172 rfl ?_
      refine wp_iload_n (i := 3) dX8_sound_173 rfl rfl ?_
      refine wp_iload (i := 8) dX8_sound_174 rfl ?_
      refine wp_callVI (vs := [.int (nI 0), .int x3, .int (x4 + (nI 1))]) (rest := []) dX8_sound_176 mV_X8_own lm_X8_46 hC_56 rfl rfl rfl (Nat.le_of_ble_eq_true rfl) (CallI.mono h (fun y9 σ8 h => ?_))
      refine wp_iconst (v := nI 2) dX8_sound_179 rfl ?_
      refine wp_imul dX8_sound_180 ?_
      exact wp_ireturn dX8_sound_181 rfl ⟨_, rfl, h⟩
    rcases Classical.em (y6 = nI 12) with q2 | q2
    · replace h := h.2.2.1 q2
      refine wp_lsw (off := 134) (tgt := 182) dX8_sound_48 (by decide) (by rw [q2]; decide) (by decide) ?_
      refine wp_aload_n (i := 0) dX8_sound_182 rfl rfl ?_
      refine wp_iconst (v := nI 1) dX8_sound_183 rfl ?_
      refine wp_iload_n (i := 3) dX8_sound_184 rfl rfl ?_
      refine wp_iload (i := 8) dX8_sound_185 rfl ?_
      refine wp_callVI (vs := [.int (nI 1), .int x3, .int (x4 + (nI 1))]) (rest := []) dX8_sound_187 mV_X8_own lm_X8_46 hC_56 rfl rfl rfl (Nat.le_of_ble_eq_true rfl) (CallI.mono h (fun y11 σ10 h => ?_))
      refine wp_aload_n (i := 0) dX8_sound_190 rfl rfl ?_
      refine wp_getI dX8_sound_191 lf_X8_31 hC_56 rfl ?_
      refine wp_isub dX8_sound_194 ?_
      exact wp_ireturn dX8_sound_195 rfl ⟨_, rfl, h⟩
    rcases Classical.em (y6 = nI 13) with q3 | q3
    · replace h := h.2.2.2.1 q3
      refine wp_lsw (off := 148) (tgt := 196) dX8_sound_48 (by decide) (by rw [q3]; decide) (by decide) ?_
      refine wp_aload_n (i := 0) dX8_sound_196 rfl rfl ?_
      refine wp_iload_n (i := 3) dX8_sound_197 rfl rfl ?_
      refine wp_aload_n (i := 0) dX8_sound_198 rfl rfl ?_
      refine wp_getI dX8_sound_199 lf_X8_31 hC_56 rfl ?_
      refine wp_aload_n (i := 0) dX8_sound_202 rfl rfl ?_
      refine wp_getI dX8_sound_203 lf_X8_28 hC_56 rfl ?_
      refine wp_isub dX8_sound_206 ?_
      refine wp_callVI (vs := [.int x3, .int ((σ7 56 4) - (σ7 56 3))]) (rest := []) dX8_sound_207 mV_X8_part lm_X8_70 hC_56 rfl rfl rfl (Nat.le_of_ble_eq_true rfl) (CallI.mono h (fun y13 σ12 h => ?_))
      exact wp_ireturn dX8_sound_210 rfl ⟨_, rfl, h⟩
    rcases Classical.em (y6 = nI 20) with q4 | q4
    · replace h := h.2.2.2.2.1 q4
      refine wp_lsw (off := 163) (tgt := 211) dX8_sound_48 (by decide) (by rw [q4]; decide) (by decide) ?_
      refine wp_aload_n (i := 0) dX8_sound_211 rfl rfl ?_
      refine wp_iload (i := 6) dX8_sound_212 rfl ?_
      refine wp_iconst (v := nI 0) dX8_sound_214 rfl ?_
      refine wp_iload_n (i := 3) dX8_sound_215 rfl rfl ?_
      refine wp_iload (i := 8) dX8_sound_216 rfl ?_
      refine wp_callVI (vs := [.int y4, .int (nI 0), .int x3, .int (x4 + (nI 1))]) (rest := []) dX8_sound_218 mV_X8_sound lm_X8_50 hC_56 rfl rfl rfl (Nat.le_of_ble_eq_true rfl) (CallI.mono h (fun y15 σ14 h => ?_))
      refine wp_iconst (v := nI 4) dX8_sound_221 rfl ?_
      refine wp_isub dX8_sound_222 ?_
      exact wp_ireturn dX8_sound_223 rfl ⟨_, rfl, h⟩
    rcases Classical.em (y6 = nI 21) with q5 | q5
    · replace h := h.2.2.2.2.2.1 q5
      refine wp_lsw (off := 176) (tgt := 224) dX8_sound_48 (by decide) (by rw [q5]; decide) (by decide) ?_
      refine wp_aload_n (i := 0) dX8_sound_224 rfl rfl ?_
      refine wp_iload (i := 6) dX8_sound_225 rfl ?_
      refine wp_iload_n (i := 3) dX8_sound_227 rfl rfl ?_
      refine wp_iload (i := 8) dX8_sound_228 rfl ?_
      refine wp_callVI (vs := [.int y4, .int x3, .int (x4 + (nI 1))]) (rest := []) dX8_sound_230 mV_X8_partAndTrade lm_X8_73 hC_56 rfl rfl rfl (Nat.le_of_ble_eq_true rfl) (CallI.mono h (fun y17 σ16 h => ?_))
      exact wp_ireturn dX8_sound_233 rfl ⟨_, rfl, h⟩
    rcases Classical.em (y6 = nI 30) with q6 | q6
    · replace h := h.2.2.2.2.2.2.1 q6
      refine wp_lsw (off := 186) (tgt := 234) dX8_sound_48 (by decide) (by rw [q6]; decide) (by decide) ?_
      refine wp_iconst (v := nI 0) dX8_sound_234 rfl ?_
      refine wp_aload_n (i := 0) dX8_sound_235 rfl rfl ?_
      refine wp_iload (i := 6) dX8_sound_236 rfl ?_
      refine wp_iconst (v := nI 1) dX8_sound_238 rfl ?_
      refine wp_iload_n (i := 3) dX8_sound_239 rfl rfl ?_
      refine wp_iload (i := 8) dX8_sound_240 rfl ?_
      refine wp_callVI (vs := [.int y4, .int (nI 1), .int x3, .int (x4 + (nI 1))]) (rest := [.int (nI 0)]) dX8_sound_242 mV_X8_sound lm_X8_50 hC_56 rfl rfl rfl (Nat.le_of_ble_eq_true rfl) (CallI.mono h (fun y19 σ18 h => ?_))
      refine wp_isub dX8_sound_245 ?_
      exact wp_ireturn dX8_sound_246 rfl ⟨_, rfl, h⟩
    rcases Classical.em (y6 = nI 40) with q7 | q7
    · replace h := h.2.2.2.2.2.2.2.1 q7
      refine wp_lsw (off := 199) (tgt := 247) dX8_sound_48 (by decide) (by rw [q7]; decide) (by decide) ?_
      refine wp_aload_n (i := 0) dX8_sound_247 rfl rfl ?_
      refine wp_iload (i := 6) dX8_sound_248 rfl ?_
      refine wp_iconst (v := nI 2) dX8_sound_250 rfl ?_
      refine wp_iload_n (i := 3) dX8_sound_251 rfl rfl ?_
      refine wp_iconst (v := nI 2) dX8_sound_252 rfl ?_
      refine wp_idiv dX8_sound_253 ⟨by decide, ?_⟩
      refine wp_iload (i := 8) dX8_sound_254 rfl ?_
      refine wp_callVI (vs := [.int y4, .int (nI 2), .int (x3 / (nI 2)), .int (x4 + (nI 1))]) (rest := []) dX8_sound_256 mV_X8_sound lm_X8_50 hC_56 rfl rfl rfl (Nat.le_of_ble_eq_true rfl) (CallI.mono h (fun y21 σ20 h => ?_))
      exact wp_ireturn dX8_sound_259 rfl ⟨_, rfl, h⟩
    rcases Classical.em (y6 = nI 50) with q8 | q8
    · replace h := h.2.2.2.2.2.2.2.2.1 q8
      refine wp_lsw (off := 212) (tgt := 260) dX8_sound_48 (by decide) (by rw [q8]; decide) (by decide) ?_
      refine wp_aload_n (i := 0) dX8_sound_260 rfl rfl ?_
      refine wp_iload (i := 6) dX8_sound_261 rfl ?_
      refine wp_iconst (v := nI 0) dX8_sound_263 rfl ?_
      refine wp_iload_n (i := 3) dX8_sound_264 rfl rfl ?_
      refine wp_iload (i := 8) dX8_sound_265 rfl ?_
      refine wp_callVI (vs := [.int y4, .int (nI 0), .int x3, .int (x4 + (nI 1))]) (rest := []) dX8_sound_267 mV_X8_sound lm_X8_50 hC_56 rfl rfl rfl (Nat.le_of_ble_eq_true rfl) (CallI.mono h (fun y23 σ22 h => ?_))
      refine wp_iconst (v := nI 3) dX8_sound_270 rfl ?_
      refine wp_imul dX8_sound_271 ?_
      exact wp_ireturn dX8_sound_272 rfl ⟨_, rfl, h⟩
    rcases Classical.em (y6 = nI 51) with q9 | q9
    · replace h := h.2.2.2.2.2.2.2.2.2.1 q9
      refine wp_lsw (off := 225) (tgt := 273) dX8_sound_48 (by decide) (by rw [q9]; decide) (by decide) ?_
      refine wp_aload_n (i := 0) dX8_sound_273 rfl rfl ?_
      refine wp_iload (i := 6) dX8_sound_274 rfl ?_
      refine wp_iconst (v := nI 2) dX8_sound_276 rfl ?_
      refine wp_iload_n (i := 3) dX8_sound_277 rfl rfl ?_
      refine wp_iload (i := 8) dX8_sound_278 rfl ?_
      refine wp_callVI (vs := [.int y4, .int (nI 2), .int x3, .int (x4 + (nI 1))]) (rest := []) dX8_sound_280 mV_X8_sound lm_X8_50 hC_56 rfl rfl rfl (Nat.le_of_ble_eq_true rfl) (CallI.mono h (fun y25 σ24 h => ?_))
      refine wp_aload_n (i := 0) dX8_sound_283 rfl rfl ?_
      refine wp_getI dX8_sound_284 lf_X8_28 hC_56 rfl ?_
      refine wp_ixor dX8_sound_287 ?_
      exact wp_ireturn dX8_sound_288 rfl ⟨_, rfl, h⟩
    rcases Classical.em (y6 = nI 60) with q10 | q10
    · replace h := h.2.2.2.2.2.2.2.2.2.2.1 q10
      refine wp_lsw (off := 241) (tgt := 289) dX8_sound_48 (by decide) (by rw [q10]; decide) (by decide) ?_
      refine wp_aload_n (i := 0) dX8_sound_289 rfl rfl ?_
      refine wp_iload (i := 6) dX8_sound_290 rfl ?_
      refine wp_iconst (v := nI 1) dX8_sound_292 rfl ?_
      refine wp_iload_n (i := 3) dX8_sound_293 rfl rfl ?_
      refine wp_iconst (v := nI 1) dX8_sound_294 rfl ?_
      refine wp_iadd dX8_sound_295 ?_
      refine wp_iload (i := 8) dX8_sound_296 rfl ?_
      refine wp_callVI (vs := [.int y4, .int (nI 1), .int (x3 + (nI 1)), .int (x4 + (nI 1))]) (rest := []) dX8_sound_298 mV_X8_sound lm_X8_50 hC_56 rfl rfl rfl (Nat.le_of_ble_eq_true rfl) (CallI.mono h (fun y27 σ26 h => ?_))
      exact wp_ireturn dX8_sound_301 rfl ⟨_, rfl, h⟩
    rcases Classical.em (y6 = nI 70) with q11 | q11
    · replace h := h.2.2.2.2.2.2.2.2.2.2.2.1 q11
      refine wp_lsw (off := 254) (tgt := 302) dX8_sound_48 (by decide) (by rw [q11]; decide) (by decide) ?_
      refine wp_bipush (v := nI 9) dX8_sound_302 (by decide) ?_
      exact wp_ireturn dX8_sound_304 rfl ⟨_, rfl, h⟩
    rcases Classical.em (y6 = nI 71) with q12 | q12
    · replace h := h.2.2.2.2.2.2.2.2.2.2.2.2.1 q12
      refine wp_lsw (off := 257) (tgt := 305) dX8_sound_48 (by decide) (by rw [q12]; decide) (by decide) ?_
      refine wp_aload_n (i := 0) dX8_sound_305 rfl rfl ?_
      refine wp_iload (i := 6) dX8_sound_306 rfl ?_
      refine wp_iconst (v := nI 1) dX8_sound_308 rfl ?_
      refine wp_iload_n (i := 3) dX8_sound_309 rfl rfl ?_
      refine wp_iload (i := 8) dX8_sound_310 rfl ?_
      refine wp_callVI (vs := [.int y4, .int (nI 1), .int x3, .int (x4 + (nI 1))]) (rest := []) dX8_sound_312 mV_X8_sound lm_X8_50 hC_56 rfl rfl rfl (Nat.le_of_ble_eq_true rfl) (CallI.mono h (fun y29 σ28 h => ?_))
      refine wp_aload_n (i := 0) dX8_sound_315 rfl rfl ?_
      refine wp_getI dX8_sound_316 lf_X8_31 hC_56 rfl ?_
      refine wp_iadd dX8_sound_319 ?_
      exact wp_ireturn dX8_sound_320 rfl ⟨_, rfl, h⟩
    replace h := h.2.2.2.2.2.2.2.2.2.2.2.2.2 q0 q1 q2 q3 q4 q5 q6 q7 q8 q9 q10 q11 q12
    refine wp_lsw (off := 273) (tgt := 321) dX8_sound_48 (by decide) ((lv_osw q0 (show ((nI 10) : Int32).toInt = 10 by decide)).trans ((lv_osw q1 (show ((nI 11) : Int32).toInt = 11 by decide)).trans ((lv_osw q2 (show ((nI 12) : Int32).toInt = 12 by decide)).trans ((lv_osw q3 (show ((nI 13) : Int32).toInt = 13 by decide)).trans ((lv_osw q4 (show ((nI 20) : Int32).toInt = 20 by decide)).trans ((lv_osw q5 (show ((nI 21) : Int32).toInt = 21 by decide)).trans ((lv_osw q6 (show ((nI 30) : Int32).toInt = 30 by decide)).trans ((lv_osw q7 (show ((nI 40) : Int32).toInt = 40 by decide)).trans ((lv_osw q8 (show ((nI 50) : Int32).toInt = 50 by decide)).trans ((lv_osw q9 (show ((nI 51) : Int32).toInt = 51 by decide)).trans ((lv_osw q10 (show ((nI 60) : Int32).toInt = 60 by decide)).trans ((lv_osw q11 (show ((nI 70) : Int32).toInt = 70 by decide)).trans ((lv_osw q12 (show ((nI 71) : Int32).toInt = 71 by decide)).trans rfl))))))))))))) (by decide) ?_
    refine wp_iconst (v := nI 0) dX8_sound_321 rfl ?_
    exact wp_ireturn dX8_sound_322 rfl ⟨_, rfl, h⟩
  · replace h := h.2 q
    refine wp_iconst (v := nI 0) dX8_sound_7 rfl ?_
    exact wp_ireturn dX8_sound_8 rfl ⟨_, rfl, h⟩
set_option maxRecDepth 20000 in
set_option maxHeartbeats 2000000 in
theorem vc_Voices_own {E : KE} {d : Nat} {x1 : Int32} {x2 : Int32} {x3 : Int32} {σ : Sg} {K : Int32 → Sg → Prop} (h : CallI E shC d mX8_sound [.ref 56, .int (σ 56 2), .int x1, .int x2, .int x3] σ (fun y2 σ1 => K y2 σ1)) : CallI E shC (d + 1) mX8_own [.ref 56, .int x1, .int x2, .int x3] σ K := by
  refine wp_enter (Lo := [some (.ref 56), some (.int x1), some (.int x2), some (.int x3)]) mp_X8_own (Nat.le_of_ble_eq_true rfl) rfl ?_
  refine wp_aload_n (i := 0) dX8_own_0 rfl rfl ?_
  refine wp_aload_n (i := 0) dX8_own_1 rfl rfl ?_
  refine wp_getI dX8_own_2 lf_X8_24 hC_56 rfl ?_
  refine wp_iload_n (i := 1) dX8_own_5 rfl rfl ?_
  refine wp_iload_n (i := 2) dX8_own_6 rfl rfl ?_
  refine wp_iload_n (i := 3) dX8_own_7 rfl rfl ?_
  refine wp_callVI (vs := [.int (σ 56 2), .int x1, .int x2, .int x3]) (rest := []) dX8_own_8 mV_X8_sound lm_X8_50 hC_56 rfl rfl rfl (Nat.le_of_ble_eq_true rfl) (CallI.mono h (fun y2 σ1 h => ?_))
  exact wp_ireturn dX8_own_11 rfl ⟨_, rfl, h⟩
set_option maxRecDepth 20000 in
set_option maxHeartbeats 2000000 in
theorem vc_Voices_speak {E : KE} {d : Nat} {x1 : Int32} {x3 : Int32} {x4 : Int32} {σ : Sg} {K : Int32 → Sg → Prop} (h : ∀ σ1, σ1 = k_put σ 57 (upd (σ 57) 1 (nI 0)) → ∀ σ3, σ3 = k_put σ1 56 (upd (σ1 56) 1 (nI 0)) → vp_in x1 6 ∧ (∀ σ5, σ5 = k_put σ3 56 (upd (σ3 56) 2 (σ3 3 x1.toNatClampNeg)) → ∀ σ7, σ7 = k_put σ5 56 (upd (σ5 56) 3 x1) → vp_in x1 6 ∧ (∀ σ9, σ9 = k_put σ7 56 (upd (σ7 56) 4 (σ7 4 x1.toNatClampNeg)) → CallI E shC d mX8_own [.ref 56, .int x3, .int x4, .int (nI 0)] σ9 (fun y12 σ11 => K y12 σ11)))) : CallI E shC (d + 1) mX8_speak [.ref 56, .int x1, .ref 2, .int x3, .int x4] σ K := by
  refine wp_enter (Lo := [some (.ref 56), some (.int x1), some (.ref 2), some (.int x3), some (.int x4)]) mp_X8_speak (Nat.le_of_ble_eq_true rfl) rfl ?_
  refine wp_aload_n (i := 0) dX8_speak_0 rfl rfl ?_
  refine wp_getR (t := 57) dX8_speak_1 lf_X8_14 hC_56 rfl ?_
  refine wp_iconst (v := nI 0) dX8_speak_4 rfl ?_
  refine wp_put dX8_speak_5 lp_X8_34 hC_57 rfl ⟨⟨rfl, rfl⟩, ?_⟩
  refine wp_nm (fun σ1 e2 => ?_)
  replace h := h σ1 e2
  refine wp_aload_n (i := 0) dX8_speak_8 rfl rfl ?_
  refine wp_iconst (v := nI 0) dX8_speak_9 rfl ?_
  refine wp_put dX8_speak_10 lp_X8_20 hC_56 rfl ⟨⟨rfl, rfl⟩, ?_⟩
  refine wp_nm (fun σ3 e4 => ?_)
  replace h := h σ3 e4
  refine wp_aload_n (i := 0) dX8_speak_13 rfl rfl ?_
  refine wp_aload_n (i := 2) dX8_speak_14 rfl rfl ?_
  refine wp_getR (t := 3) dX8_speak_15 lf_X8_37 hC_2 rfl ?_
  refine wp_iload_n (i := 1) dX8_speak_18 rfl rfl ?_
  refine wp_iald dX8_speak_19 hC_3 ⟨h.1, ?_⟩
  replace h := h.2
  refine wp_put dX8_speak_20 lp_X8_24 hC_56 rfl ⟨⟨rfl, rfl⟩, ?_⟩
  refine wp_nm (fun σ5 e6 => ?_)
  replace h := h σ5 e6
  refine wp_aload_n (i := 0) dX8_speak_23 rfl rfl ?_
  refine wp_iload_n (i := 1) dX8_speak_24 rfl rfl ?_
  refine wp_put dX8_speak_25 lp_X8_28 hC_56 rfl ⟨⟨rfl, rfl⟩, ?_⟩
  refine wp_nm (fun σ7 e8 => ?_)
  replace h := h σ7 e8
  refine wp_aload_n (i := 0) dX8_speak_28 rfl rfl ?_
  refine wp_aload_n (i := 2) dX8_speak_29 rfl rfl ?_
  refine wp_getR (t := 4) dX8_speak_30 lf_X8_43 hC_2 rfl ?_
  refine wp_iload_n (i := 1) dX8_speak_33 rfl rfl ?_
  refine wp_iald dX8_speak_34 hC_4 ⟨h.1, ?_⟩
  replace h := h.2
  refine wp_put dX8_speak_35 lp_X8_31 hC_56 rfl ⟨⟨rfl, rfl⟩, ?_⟩
  refine wp_nm (fun σ9 e10 => ?_)
  replace h := h σ9 e10
  refine wp_aload_n (i := 0) dX8_speak_38 rfl rfl ?_
  refine wp_iload_n (i := 3) dX8_speak_39 rfl rfl ?_
  refine wp_iload (i := 4) dX8_speak_40 rfl ?_
  refine wp_iconst (v := nI 0) dX8_speak_42 rfl ?_
  refine wp_callVI (vs := [.int x3, .int x4, .int (nI 0)]) (rest := []) dX8_speak_43 mV_X8_own lm_X8_46 hC_56 rfl rfl rfl (Nat.le_of_ble_eq_true rfl) (CallI.mono h (fun y12 σ11 h => ?_))
  exact wp_ireturn dX8_speak_46 rfl ⟨_, rfl, h⟩
set_option maxRecDepth 20000 in
set_option maxHeartbeats 2000000 in
theorem vc_SD_voice {E : KE} {d : Nat} {x1 : Int32} {x2 : Int32} {x3 : Int32} {σ : Sg} {K : Int32 → Sg → Prop} (h : CallI E shC d mX1_knows [.ref 2, .int x1] σ (fun y2 σ1 => (y2 = 0 → CallI E shC d mX10_error [.ref 0, .int (nI 1)] σ1 (fun y4 σ3 => K y4 σ3)) ∧ (¬ y2 = 0 → CallI E shC d mX10_isWithin [.int x2, .int (nI 0), .int (nI 3)] σ1 (fun y6 σ5 => (¬ y6 = 0 → CallI E shC d mX8_speak [.ref 56, .int x1, .ref 2, .int x2, .int x3] σ5 (fun y8 σ7 => ((σ7 56 1) = 0 → K y8 σ7) ∧ (¬ (σ7 56 1) = 0 → CallI E shC d mX10_error [.ref 0, .int (nI 6)] σ7 (fun y10 σ9 => K y10 σ9)))) ∧ (y6 = 0 → CallI E shC d mX10_error [.ref 0, .int (nI 1)] σ5 (fun y12 σ11 => K y12 σ11)))))) : CallI E shC (d + 1) mX10_voice [.ref 0, .int x1, .int x2, .int x3] σ K := by
  refine wp_enter (Lo := [some (.ref 0), some (.int x1), some (.int x2), some (.int x3), none]) mp_X10_voice (Nat.le_of_ble_eq_true rfl) rfl ?_
  refine wp_aload_n (i := 0) dX10_voice_0 rfl rfl ?_
  refine wp_getR (t := 1) dX10_voice_1 lf_X10_10 hC_0 rfl ?_
  refine wp_getR (t := 2) dX10_voice_4 lf_X10_66 hC_1 rfl ?_
  refine wp_iload_n (i := 1) dX10_voice_7 rfl rfl ?_
  refine wp_callVI (vs := [.int x1]) (rest := []) dX10_voice_8 mV_X1_knows lm_X10_78 hC_2 rfl rfl rfl (Nat.le_of_ble_eq_true rfl) (CallI.mono h (fun y2 σ1 h => ?_))
  refine wp_ifeq (tgt := 23) dX10_voice_11 (by decide) ⟨fun q => ?_, fun q => ?_⟩
  · replace h := h.1 q
    refine wp_aload_n (i := 0) dX10_voice_23 rfl rfl ?_
    refine wp_iconst (v := nI 1) dX10_voice_24 rfl ?_
    refine wp_callVI (vs := [.int (nI 1)]) (rest := []) dX10_voice_25 mV_X10_error lm_X10_62 hC_0 rfl rfl rfl (Nat.le_of_ble_eq_true rfl) (CallI.mono h (fun y4 σ3 h => ?_))
    exact wp_ireturn dX10_voice_28 rfl ⟨_, rfl, h⟩
  · replace h := h.2 q
    refine wp_iload_n (i := 2) dX10_voice_14 rfl rfl ?_
    refine wp_iconst (v := nI 0) dX10_voice_15 rfl ?_
    refine wp_iconst (v := nI 3) dX10_voice_16 rfl ?_
    refine wp_callSI (vs := [.int x2, .int (nI 0), .int (nI 3)]) (rest := []) dX10_voice_17 mS_X10_isWithin lm_X10_81 rfl rfl (Nat.le_of_ble_eq_true rfl) (CallI.mono h (fun y6 σ5 h => ?_))
    refine wp_ifne (tgt := 29) dX10_voice_20 (by decide) ⟨fun q => ?_, fun q => ?_⟩
    · replace h := h.1 q
      refine wp_aload_n (i := 0) dX10_voice_29 rfl rfl ?_
      refine wp_getR (t := 56) dX10_voice_30 lf_X10_36 hC_0 rfl ?_
      refine wp_iload_n (i := 1) dX10_voice_33 rfl rfl ?_
      refine wp_aload_n (i := 0) dX10_voice_34 rfl rfl ?_
      refine wp_getR (t := 1) dX10_voice_35 lf_X10_10 hC_0 rfl ?_
      refine wp_getR (t := 2) dX10_voice_38 lf_X10_66 hC_1 rfl ?_
      refine wp_iload_n (i := 2) dX10_voice_41 rfl rfl ?_
      refine wp_iload_n (i := 3) dX10_voice_42 rfl rfl ?_
      refine wp_callVI (vs := [.int x1, .ref 2, .int x2, .int x3]) (rest := []) dX10_voice_43 mV_X8_speak lm_X10_277 hC_56 rfl rfl rfl (Nat.le_of_ble_eq_true rfl) (CallI.mono h (fun y8 σ7 h => ?_))
      refine wp_istore (i := 4) (Lo' := [some (.ref 0), some (.int x1), some (.int x2), some (.int x3), some (.int y8)]) dX10_voice_46 (by decide) rfl rfl ?_
      refine wp_aload_n (i := 0) dX10_voice_48 rfl rfl ?_
      refine wp_getR (t := 56) dX10_voice_49 lf_X10_36 hC_0 rfl ?_
      refine wp_getI dX10_voice_52 lf_X10_281 hC_56 rfl ?_
      refine wp_ifeq (tgt := 67) dX10_voice_55 (by decide) ⟨fun q => ?_, fun q => ?_⟩
      · replace h := h.1 q
        refine wp_iload (i := 4) dX10_voice_67 rfl ?_
        exact wp_ireturn dX10_voice_69 rfl ⟨_, rfl, h⟩
      · replace h := h.2 q
        refine wp_aload_n (i := 0) dX10_voice_58 rfl rfl ?_
        refine wp_bipush (v := nI 6) dX10_voice_59 (by decide) ?_
        refine wp_callVI (vs := [.int (nI 6)]) (rest := []) dX10_voice_61 mV_X10_error lm_X10_62 hC_0 rfl rfl rfl (Nat.le_of_ble_eq_true rfl) (CallI.mono h (fun y10 σ9 h => ?_))
        refine wp_goto (tgt := 69) dX10_voice_64 (by decide) ?_
        exact wp_ireturn dX10_voice_69 rfl ⟨_, rfl, h⟩
    · replace h := h.2 q
      refine wp_aload_n (i := 0) dX10_voice_23 rfl rfl ?_
      refine wp_iconst (v := nI 1) dX10_voice_24 rfl ?_
      refine wp_callVI (vs := [.int (nI 1)]) (rest := []) dX10_voice_25 mV_X10_error lm_X10_62 hC_0 rfl rfl rfl (Nat.le_of_ble_eq_true rfl) (CallI.mono h (fun y12 σ11 h => ?_))
      exact wp_ireturn dX10_voice_28 rfl ⟨_, rfl, h⟩
set_option maxRecDepth 20000 in
set_option maxHeartbeats 2000000 in
theorem vc_SD_body {E : KE} {d : Nat} {x1 : Int32} {σ : Sg} {K : Int32 → Sg → Prop} (h : CallI E shC d mX10_isWithin [.int x1, .int (nI 0), .int ((σ 57 1) - (nI 1))] σ (fun y2 σ1 => (¬ y2 = 0 → vp_in x1 30 ∧ (K (σ1 58 x1.toNatClampNeg) σ1)) ∧ (y2 = 0 → CallI E shC d mX10_error [.ref 0, .int (nI 2)] σ1 (fun y4 σ3 => K y4 σ3)))) : CallI E shC (d + 1) mX10_body [.ref 0, .int x1] σ K := by
  refine wp_enter (Lo := [some (.ref 0), some (.int x1)]) mp_X10_body (Nat.le_of_ble_eq_true rfl) rfl ?_
  refine wp_iload_n (i := 1) dX10_body_0 rfl rfl ?_
  refine wp_iconst (v := nI 0) dX10_body_1 rfl ?_
  refine wp_aload_n (i := 0) dX10_body_2 rfl rfl ?_
  refine wp_getR (t := 56) dX10_body_3 lf_X10_36 hC_0 rfl ?_
  refine wp_getR (t := 57) dX10_body_6 lf_X10_285 hC_56 rfl ?_
  refine wp_getI dX10_body_9 lf_X10_167 hC_57 rfl ?_
  refine wp_iconst (v := nI 1) dX10_body_12 rfl ?_
  refine wp_isub dX10_body_13 ?_
  refine wp_callSI (vs := [.int x1, .int (nI 0), .int ((σ 57 1) - (nI 1))]) (rest := []) dX10_body_14 mS_X10_isWithin lm_X10_81 rfl rfl (Nat.le_of_ble_eq_true rfl) (CallI.mono h (fun y2 σ1 h => ?_))
  refine wp_ifne (tgt := 26) dX10_body_17 (by decide) ⟨fun q => ?_, fun q => ?_⟩
  · replace h := h.1 q
    refine wp_aload_n (i := 0) dX10_body_26 rfl rfl ?_
    refine wp_getR (t := 56) dX10_body_27 lf_X10_36 hC_0 rfl ?_
    refine wp_getR (t := 57) dX10_body_30 lf_X10_285 hC_56 rfl ?_
    refine wp_getR (t := 58) dX10_body_33 lf_X10_288 hC_57 rfl ?_
    refine wp_iload_n (i := 1) dX10_body_36 rfl rfl ?_
    refine wp_iald dX10_body_37 hC_58 ⟨h.1, ?_⟩
    replace h := h.2
    exact wp_ireturn dX10_body_38 rfl ⟨_, rfl, h⟩
  · replace h := h.2 q
    refine wp_aload_n (i := 0) dX10_body_20 rfl rfl ?_
    refine wp_iconst (v := nI 2) dX10_body_21 rfl ?_
    refine wp_callVI (vs := [.int (nI 2)]) (rest := []) dX10_body_22 mV_X10_error lm_X10_62 hC_0 rfl rfl rfl (Nat.le_of_ble_eq_true rfl) (CallI.mono h (fun y4 σ3 h => ?_))
    exact wp_ireturn dX10_body_25 rfl ⟨_, rfl, h⟩
set_option maxRecDepth 20000 in
set_option maxHeartbeats 2000000 in
theorem vb_Sheets_renew_17 {E : KE} {d : Nat} {x1 : Int32} {x4 : Int32} {σ : Sg} {K : Sg → Prop} (h : ((nI 24) ≤ x4 → K σ) ∧ (¬ (nI 24) ≤ x4 → vp_in ((x1 * (nI 24)) + x4) 96 ∧ (∀ σ1, σ1 = k_put σ 62 (upd (σ 62) ((x1 * (nI 24)) + x4).toNatClampNeg (nI 0)) → WP E shC mX5_renew d 17 [some (.ref 59), some (.int x1), none, none, some (.int (x4 + nI 1))] [] σ1 (k_qn K)))) : WP E shC mX5_renew d 17 [some (.ref 59), some (.int x1), none, none, some (.int x4)] [] σ (k_qn K) := by
  refine wp_iload (i := 4) dX5_renew_17 rfl ?_
  refine wp_bipush (v := nI 24) dX5_renew_19 (by decide) ?_
  refine wp_icmpge (tgt := 43) dX5_renew_21 (by decide) ⟨fun q => ?_, fun q => ?_⟩
  · replace h := h.1 q
    exact wp_return dX5_renew_43 rfl ⟨rfl, h⟩
  · replace h := h.2 q
    refine wp_aload_n (i := 0) dX5_renew_24 rfl rfl ?_
    refine wp_getR (t := 62) dX5_renew_25 lf_X5_18 hC_59 rfl ?_
    refine wp_iload_n (i := 1) dX5_renew_28 rfl rfl ?_
    refine wp_bipush (v := nI 24) dX5_renew_29 (by decide) ?_
    refine wp_imul dX5_renew_31 ?_
    refine wp_iload (i := 4) dX5_renew_32 rfl ?_
    refine wp_iadd dX5_renew_34 ?_
    refine wp_iconst (v := nI 0) dX5_renew_35 rfl ?_
    refine wp_iast dX5_renew_36 hC_62 ⟨h.1, ?_⟩
    refine wp_nm (fun σ1 e2 => ?_)
    replace h := h.2 σ1 e2
    refine wp_iinc (i := 4) (v := x4 + nI 1) (Lo' := [some (.ref 59), some (.int x1), none, none, some (.int (x4 + nI 1))]) dX5_renew_37 rfl (by rfl) (by decide) rfl rfl ?_
    refine wp_goto (tgt := 17) dX5_renew_40 (by decide) ?_
    exact wp_mask [true, true, false, false, true] h
set_option maxRecDepth 20000 in
set_option maxHeartbeats 2000000 in
theorem vc_Sheets_renew {E : KE} {d : Nat} {x1 : Int32} {x2 : Int32} {x3 : Int32} {σ : Sg} {K : Sg → Prop} (h : vp_in x1 4 ∧ (∀ σ1, σ1 = k_put σ 60 (upd (σ 60) x1.toNatClampNeg x2) → vp_in x1 4 ∧ (∀ σ3, σ3 = k_put σ1 61 (upd (σ1 61) x1.toNatClampNeg x3) → WP E shC mX5_renew d 17 [some (.ref 59), some (.int x1), none, none, some (.int (nI 0))] [] σ3 (k_qn K)))) : CallN E shC d mX5_renew [.ref 59, .int x1, .int x2, .int x3] σ K := by
  refine wp_enter (Lo := [some (.ref 59), some (.int x1), some (.int x2), some (.int x3), none]) mp_X5_renew (Nat.le_of_ble_eq_true rfl) rfl ?_
  refine wp_aload_n (i := 0) dX5_renew_0 rfl rfl ?_
  refine wp_getR (t := 60) dX5_renew_1 lf_X5_9 hC_59 rfl ?_
  refine wp_iload_n (i := 1) dX5_renew_4 rfl rfl ?_
  refine wp_iload_n (i := 2) dX5_renew_5 rfl rfl ?_
  refine wp_iast dX5_renew_6 hC_60 ⟨h.1, ?_⟩
  refine wp_nm (fun σ1 e2 => ?_)
  replace h := h.2 σ1 e2
  refine wp_aload_n (i := 0) dX5_renew_7 rfl rfl ?_
  refine wp_getR (t := 61) dX5_renew_8 lf_X5_15 hC_59 rfl ?_
  refine wp_iload_n (i := 1) dX5_renew_11 rfl rfl ?_
  refine wp_iload_n (i := 3) dX5_renew_12 rfl rfl ?_
  refine wp_iast dX5_renew_13 hC_61 ⟨h.1, ?_⟩
  refine wp_nm (fun σ3 e4 => ?_)
  replace h := h.2 σ3 e4
  refine wp_iconst (v := nI 0) dX5_renew_14 rfl ?_
  refine wp_istore (i := 4) (Lo' := [some (.ref 59), some (.int x1), some (.int x2), some (.int x3), some (.int (nI 0))]) dX5_renew_15 (by decide) rfl rfl ?_
  exact wp_mask [true, true, false, false, true] h
set_option maxRecDepth 20000 in
set_option maxHeartbeats 2000000 in
theorem vc_SD_sheet {E : KE} {d : Nat} {x1 : Int32} {x2 : Int32} {x3 : Int32} {σ : Sg} {K : Int32 → Sg → Prop} (h : CallI E shC d mX5_isSheet [.int x1] σ (fun y2 σ1 => (y2 = 0 → CallI E shC d mX10_error [.ref 0, .int (nI 1)] σ1 (fun y4 σ3 => K y4 σ3)) ∧ (¬ y2 = 0 → (x2 = 0 → (¬ x2 = 0 → (0 ≤ x3 → (x3 ≤ (nI 24) → CallN E shC d mX5_renew [.ref 59, .int x1, .int x2, .int x3] σ1 (fun σ5 => K (nI 1) σ5)) ∧ (¬ x3 ≤ (nI 24) → CallI E shC d mX10_error [.ref 0, .int (nI 1)] σ1 (fun y7 σ6 => K y7 σ6))) ∧ (¬ 0 ≤ x3 → CallI E shC d mX10_error [.ref 0, .int (nI 3)] σ1 (fun y9 σ8 => K y9 σ8))) ∧ (x2 = 0 → CallN E shC d mX5_renew [.ref 59, .int x1, .int (nI 0), .int (nI 0)] σ1 (fun σ10 => K (nI 1) σ10))) ∧ (¬ x2 = 0 → (x2 = (nI 8) → (¬ x2 = 0 → (0 ≤ x3 → (x3 ≤ (nI 24) → CallN E shC d mX5_renew [.ref 59, .int x1, .int x2, .int x3] σ1 (fun σ11 => K (nI 1) σ11)) ∧ (¬ x3 ≤ (nI 24) → CallI E shC d mX10_error [.ref 0, .int (nI 1)] σ1 (fun y13 σ12 => K y13 σ12))) ∧ (¬ 0 ≤ x3 → CallI E shC d mX10_error [.ref 0, .int (nI 3)] σ1 (fun y15 σ14 => K y15 σ14))) ∧ (x2 = 0 → CallN E shC d mX5_renew [.ref 59, .int x1, .int (nI 0), .int (nI 0)] σ1 (fun σ16 => K (nI 1) σ16))) ∧ (¬ x2 = (nI 8) → (x2 = (nI 16) → (¬ x2 = 0 → (0 ≤ x3 → (x3 ≤ (nI 24) → CallN E shC d mX5_renew [.ref 59, .int x1, .int x2, .int x3] σ1 (fun σ17 => K (nI 1) σ17)) ∧ (¬ x3 ≤ (nI 24) → CallI E shC d mX10_error [.ref 0, .int (nI 1)] σ1 (fun y19 σ18 => K y19 σ18))) ∧ (¬ 0 ≤ x3 → CallI E shC d mX10_error [.ref 0, .int (nI 3)] σ1 (fun y21 σ20 => K y21 σ20))) ∧ (x2 = 0 → CallN E shC d mX5_renew [.ref 59, .int x1, .int (nI 0), .int (nI 0)] σ1 (fun σ22 => K (nI 1) σ22))) ∧ (¬ x2 = (nI 16) → (x2 = (nI 32) → (¬ x2 = 0 → (0 ≤ x3 → (x3 ≤ (nI 24) → CallN E shC d mX5_renew [.ref 59, .int x1, .int x2, .int x3] σ1 (fun σ23 => K (nI 1) σ23)) ∧ (¬ x3 ≤ (nI 24) → CallI E shC d mX10_error [.ref 0, .int (nI 1)] σ1 (fun y25 σ24 => K y25 σ24))) ∧ (¬ 0 ≤ x3 → CallI E shC d mX10_error [.ref 0, .int (nI 3)] σ1 (fun y27 σ26 => K y27 σ26))) ∧ (x2 = 0 → CallN E shC d mX5_renew [.ref 59, .int x1, .int (nI 0), .int (nI 0)] σ1 (fun σ28 => K (nI 1) σ28))) ∧ (¬ x2 = (nI 32) → CallI E shC d mX10_error [.ref 0, .int (nI 1)] σ1 (fun y30 σ29 => K y30 σ29)))))))) : CallI E shC (d + 1) mX10_sheet [.ref 0, .int x1, .int x2, .int x3] σ K := by
  refine wp_enter (Lo := [some (.ref 0), some (.int x1), some (.int x2), some (.int x3)]) mp_X10_sheet (Nat.le_of_ble_eq_true rfl) rfl ?_
  refine wp_iload_n (i := 1) dX10_sheet_0 rfl rfl ?_
  refine wp_callSI (vs := [.int x1]) (rest := []) dX10_sheet_1 mS_X5_isSheet lm_X10_262 rfl rfl (Nat.le_of_ble_eq_true rfl) (CallI.mono h (fun y2 σ1 h => ?_))
  refine wp_ifeq (tgt := 29) dX10_sheet_4 (by decide) ⟨fun q => ?_, fun q => ?_⟩
  · replace h := h.1 q
    refine wp_aload_n (i := 0) dX10_sheet_29 rfl rfl ?_
    refine wp_iconst (v := nI 1) dX10_sheet_30 rfl ?_
    refine wp_callVI (vs := [.int (nI 1)]) (rest := []) dX10_sheet_31 mV_X10_error lm_X10_62 hC_0 rfl rfl rfl (Nat.le_of_ble_eq_true rfl) (CallI.mono h (fun y4 σ3 h => ?_))
    exact wp_ireturn dX10_sheet_34 rfl ⟨_, rfl, h⟩
  · replace h := h.2 q
    refine wp_iload_n (i := 2) dX10_sheet_7 rfl rfl ?_
    refine wp_ifeq (tgt := 35) dX10_sheet_8 (by decide) ⟨fun q => ?_, fun q => ?_⟩
    · replace h := h.1 q
      refine wp_iload_n (i := 2) dX10_sheet_35 rfl rfl ?_
      refine wp_ifne (tgt := 51) dX10_sheet_36 (by decide) ⟨fun q => ?_, fun q => ?_⟩
      · replace h := h.1 q
        refine wp_iload_n (i := 3) dX10_sheet_51 rfl rfl ?_
        refine wp_ifge (tgt := 61) dX10_sheet_52 (by decide) ⟨fun q => ?_, fun q => ?_⟩
        · replace h := h.1 q
          refine wp_iload_n (i := 3) dX10_sheet_61 rfl rfl ?_
          refine wp_bipush (v := nI 24) dX10_sheet_62 (by decide) ?_
          refine wp_icmple (tgt := 73) dX10_sheet_64 (by decide) ⟨fun q => ?_, fun q => ?_⟩
          · replace h := h.1 q
            refine wp_aload_n (i := 0) dX10_sheet_73 rfl rfl ?_
            refine wp_getR (t := 59) dX10_sheet_74 lf_X10_43 hC_0 rfl ?_
            refine wp_iload_n (i := 1) dX10_sheet_77 rfl rfl ?_
            refine wp_iload_n (i := 2) dX10_sheet_78 rfl rfl ?_
            refine wp_iload_n (i := 3) dX10_sheet_79 rfl rfl ?_
            refine wp_callVN (vs := [.int x1, .int x2, .int x3]) (rest := []) dX10_sheet_80 mV_X5_renew lm_X10_291 hC_59 rfl rfl rfl (Nat.le_of_ble_eq_true rfl) (CallN.mono h (fun σ5 h => ?_))
            refine wp_iconst (v := nI 1) dX10_sheet_83 rfl ?_
            exact wp_ireturn dX10_sheet_84 rfl ⟨_, rfl, h⟩
          · replace h := h.2 q
            refine wp_aload_n (i := 0) dX10_sheet_67 rfl rfl ?_
            refine wp_iconst (v := nI 1) dX10_sheet_68 rfl ?_
            refine wp_callVI (vs := [.int (nI 1)]) (rest := []) dX10_sheet_69 mV_X10_error lm_X10_62 hC_0 rfl rfl rfl (Nat.le_of_ble_eq_true rfl) (CallI.mono h (fun y7 σ6 h => ?_))
            exact wp_ireturn dX10_sheet_72 rfl ⟨_, rfl, h⟩
        · replace h := h.2 q
          refine wp_aload_n (i := 0) dX10_sheet_55 rfl rfl ?_
          refine wp_iconst (v := nI 3) dX10_sheet_56 rfl ?_
          refine wp_callVI (vs := [.int (nI 3)]) (rest := []) dX10_sheet_57 mV_X10_error lm_X10_62 hC_0 rfl rfl rfl (Nat.le_of_ble_eq_true rfl) (CallI.mono h (fun y9 σ8 h => ?_))
          exact wp_ireturn dX10_sheet_60 rfl ⟨_, rfl, h⟩
      · replace h := h.2 q
        refine wp_aload_n (i := 0) dX10_sheet_39 rfl rfl ?_
        refine wp_getR (t := 59) dX10_sheet_40 lf_X10_43 hC_0 rfl ?_
        refine wp_iload_n (i := 1) dX10_sheet_43 rfl rfl ?_
        refine wp_iconst (v := nI 0) dX10_sheet_44 rfl ?_
        refine wp_iconst (v := nI 0) dX10_sheet_45 rfl ?_
        refine wp_callVN (vs := [.int x1, .int (nI 0), .int (nI 0)]) (rest := []) dX10_sheet_46 mV_X5_renew lm_X10_291 hC_59 rfl rfl rfl (Nat.le_of_ble_eq_true rfl) (CallN.mono h (fun σ10 h => ?_))
        refine wp_iconst (v := nI 1) dX10_sheet_49 rfl ?_
        exact wp_ireturn dX10_sheet_50 rfl ⟨_, rfl, h⟩
    · replace h := h.2 q
      refine wp_iload_n (i := 2) dX10_sheet_11 rfl rfl ?_
      refine wp_bipush (v := nI 8) dX10_sheet_12 (by decide) ?_
      refine wp_icmpeq (tgt := 35) dX10_sheet_14 (by decide) ⟨fun q => ?_, fun q => ?_⟩
      · replace h := h.1 q
        refine wp_iload_n (i := 2) dX10_sheet_35 rfl rfl ?_
        refine wp_ifne (tgt := 51) dX10_sheet_36 (by decide) ⟨fun q => ?_, fun q => ?_⟩
        · replace h := h.1 q
          refine wp_iload_n (i := 3) dX10_sheet_51 rfl rfl ?_
          refine wp_ifge (tgt := 61) dX10_sheet_52 (by decide) ⟨fun q => ?_, fun q => ?_⟩
          · replace h := h.1 q
            refine wp_iload_n (i := 3) dX10_sheet_61 rfl rfl ?_
            refine wp_bipush (v := nI 24) dX10_sheet_62 (by decide) ?_
            refine wp_icmple (tgt := 73) dX10_sheet_64 (by decide) ⟨fun q => ?_, fun q => ?_⟩
            · replace h := h.1 q
              refine wp_aload_n (i := 0) dX10_sheet_73 rfl rfl ?_
              refine wp_getR (t := 59) dX10_sheet_74 lf_X10_43 hC_0 rfl ?_
              refine wp_iload_n (i := 1) dX10_sheet_77 rfl rfl ?_
              refine wp_iload_n (i := 2) dX10_sheet_78 rfl rfl ?_
              refine wp_iload_n (i := 3) dX10_sheet_79 rfl rfl ?_
              refine wp_callVN (vs := [.int x1, .int x2, .int x3]) (rest := []) dX10_sheet_80 mV_X5_renew lm_X10_291 hC_59 rfl rfl rfl (Nat.le_of_ble_eq_true rfl) (CallN.mono h (fun σ11 h => ?_))
              refine wp_iconst (v := nI 1) dX10_sheet_83 rfl ?_
              exact wp_ireturn dX10_sheet_84 rfl ⟨_, rfl, h⟩
            · replace h := h.2 q
              refine wp_aload_n (i := 0) dX10_sheet_67 rfl rfl ?_
              refine wp_iconst (v := nI 1) dX10_sheet_68 rfl ?_
              refine wp_callVI (vs := [.int (nI 1)]) (rest := []) dX10_sheet_69 mV_X10_error lm_X10_62 hC_0 rfl rfl rfl (Nat.le_of_ble_eq_true rfl) (CallI.mono h (fun y13 σ12 h => ?_))
              exact wp_ireturn dX10_sheet_72 rfl ⟨_, rfl, h⟩
          · replace h := h.2 q
            refine wp_aload_n (i := 0) dX10_sheet_55 rfl rfl ?_
            refine wp_iconst (v := nI 3) dX10_sheet_56 rfl ?_
            refine wp_callVI (vs := [.int (nI 3)]) (rest := []) dX10_sheet_57 mV_X10_error lm_X10_62 hC_0 rfl rfl rfl (Nat.le_of_ble_eq_true rfl) (CallI.mono h (fun y15 σ14 h => ?_))
            exact wp_ireturn dX10_sheet_60 rfl ⟨_, rfl, h⟩
        · replace h := h.2 q
          refine wp_aload_n (i := 0) dX10_sheet_39 rfl rfl ?_
          refine wp_getR (t := 59) dX10_sheet_40 lf_X10_43 hC_0 rfl ?_
          refine wp_iload_n (i := 1) dX10_sheet_43 rfl rfl ?_
          refine wp_iconst (v := nI 0) dX10_sheet_44 rfl ?_
          refine wp_iconst (v := nI 0) dX10_sheet_45 rfl ?_
          refine wp_callVN (vs := [.int x1, .int (nI 0), .int (nI 0)]) (rest := []) dX10_sheet_46 mV_X5_renew lm_X10_291 hC_59 rfl rfl rfl (Nat.le_of_ble_eq_true rfl) (CallN.mono h (fun σ16 h => ?_))
          refine wp_iconst (v := nI 1) dX10_sheet_49 rfl ?_
          exact wp_ireturn dX10_sheet_50 rfl ⟨_, rfl, h⟩
      · replace h := h.2 q
        refine wp_iload_n (i := 2) dX10_sheet_17 rfl rfl ?_
        refine wp_bipush (v := nI 16) dX10_sheet_18 (by decide) ?_
        refine wp_icmpeq (tgt := 35) dX10_sheet_20 (by decide) ⟨fun q => ?_, fun q => ?_⟩
        · replace h := h.1 q
          refine wp_iload_n (i := 2) dX10_sheet_35 rfl rfl ?_
          refine wp_ifne (tgt := 51) dX10_sheet_36 (by decide) ⟨fun q => ?_, fun q => ?_⟩
          · replace h := h.1 q
            refine wp_iload_n (i := 3) dX10_sheet_51 rfl rfl ?_
            refine wp_ifge (tgt := 61) dX10_sheet_52 (by decide) ⟨fun q => ?_, fun q => ?_⟩
            · replace h := h.1 q
              refine wp_iload_n (i := 3) dX10_sheet_61 rfl rfl ?_
              refine wp_bipush (v := nI 24) dX10_sheet_62 (by decide) ?_
              refine wp_icmple (tgt := 73) dX10_sheet_64 (by decide) ⟨fun q => ?_, fun q => ?_⟩
              · replace h := h.1 q
                refine wp_aload_n (i := 0) dX10_sheet_73 rfl rfl ?_
                refine wp_getR (t := 59) dX10_sheet_74 lf_X10_43 hC_0 rfl ?_
                refine wp_iload_n (i := 1) dX10_sheet_77 rfl rfl ?_
                refine wp_iload_n (i := 2) dX10_sheet_78 rfl rfl ?_
                refine wp_iload_n (i := 3) dX10_sheet_79 rfl rfl ?_
                refine wp_callVN (vs := [.int x1, .int x2, .int x3]) (rest := []) dX10_sheet_80 mV_X5_renew lm_X10_291 hC_59 rfl rfl rfl (Nat.le_of_ble_eq_true rfl) (CallN.mono h (fun σ17 h => ?_))
                refine wp_iconst (v := nI 1) dX10_sheet_83 rfl ?_
                exact wp_ireturn dX10_sheet_84 rfl ⟨_, rfl, h⟩
              · replace h := h.2 q
                refine wp_aload_n (i := 0) dX10_sheet_67 rfl rfl ?_
                refine wp_iconst (v := nI 1) dX10_sheet_68 rfl ?_
                refine wp_callVI (vs := [.int (nI 1)]) (rest := []) dX10_sheet_69 mV_X10_error lm_X10_62 hC_0 rfl rfl rfl (Nat.le_of_ble_eq_true rfl) (CallI.mono h (fun y19 σ18 h => ?_))
                exact wp_ireturn dX10_sheet_72 rfl ⟨_, rfl, h⟩
            · replace h := h.2 q
              refine wp_aload_n (i := 0) dX10_sheet_55 rfl rfl ?_
              refine wp_iconst (v := nI 3) dX10_sheet_56 rfl ?_
              refine wp_callVI (vs := [.int (nI 3)]) (rest := []) dX10_sheet_57 mV_X10_error lm_X10_62 hC_0 rfl rfl rfl (Nat.le_of_ble_eq_true rfl) (CallI.mono h (fun y21 σ20 h => ?_))
              exact wp_ireturn dX10_sheet_60 rfl ⟨_, rfl, h⟩
          · replace h := h.2 q
            refine wp_aload_n (i := 0) dX10_sheet_39 rfl rfl ?_
            refine wp_getR (t := 59) dX10_sheet_40 lf_X10_43 hC_0 rfl ?_
            refine wp_iload_n (i := 1) dX10_sheet_43 rfl rfl ?_
            refine wp_iconst (v := nI 0) dX10_sheet_44 rfl ?_
            refine wp_iconst (v := nI 0) dX10_sheet_45 rfl ?_
            refine wp_callVN (vs := [.int x1, .int (nI 0), .int (nI 0)]) (rest := []) dX10_sheet_46 mV_X5_renew lm_X10_291 hC_59 rfl rfl rfl (Nat.le_of_ble_eq_true rfl) (CallN.mono h (fun σ22 h => ?_))
            refine wp_iconst (v := nI 1) dX10_sheet_49 rfl ?_
            exact wp_ireturn dX10_sheet_50 rfl ⟨_, rfl, h⟩
        · replace h := h.2 q
          refine wp_iload_n (i := 2) dX10_sheet_23 rfl rfl ?_
          refine wp_bipush (v := nI 32) dX10_sheet_24 (by decide) ?_
          refine wp_icmpeq (tgt := 35) dX10_sheet_26 (by decide) ⟨fun q => ?_, fun q => ?_⟩
          · replace h := h.1 q
            refine wp_iload_n (i := 2) dX10_sheet_35 rfl rfl ?_
            refine wp_ifne (tgt := 51) dX10_sheet_36 (by decide) ⟨fun q => ?_, fun q => ?_⟩
            · replace h := h.1 q
              refine wp_iload_n (i := 3) dX10_sheet_51 rfl rfl ?_
              refine wp_ifge (tgt := 61) dX10_sheet_52 (by decide) ⟨fun q => ?_, fun q => ?_⟩
              · replace h := h.1 q
                refine wp_iload_n (i := 3) dX10_sheet_61 rfl rfl ?_
                refine wp_bipush (v := nI 24) dX10_sheet_62 (by decide) ?_
                refine wp_icmple (tgt := 73) dX10_sheet_64 (by decide) ⟨fun q => ?_, fun q => ?_⟩
                · replace h := h.1 q
                  refine wp_aload_n (i := 0) dX10_sheet_73 rfl rfl ?_
                  refine wp_getR (t := 59) dX10_sheet_74 lf_X10_43 hC_0 rfl ?_
                  refine wp_iload_n (i := 1) dX10_sheet_77 rfl rfl ?_
                  refine wp_iload_n (i := 2) dX10_sheet_78 rfl rfl ?_
                  refine wp_iload_n (i := 3) dX10_sheet_79 rfl rfl ?_
                  refine wp_callVN (vs := [.int x1, .int x2, .int x3]) (rest := []) dX10_sheet_80 mV_X5_renew lm_X10_291 hC_59 rfl rfl rfl (Nat.le_of_ble_eq_true rfl) (CallN.mono h (fun σ23 h => ?_))
                  refine wp_iconst (v := nI 1) dX10_sheet_83 rfl ?_
                  exact wp_ireturn dX10_sheet_84 rfl ⟨_, rfl, h⟩
                · replace h := h.2 q
                  refine wp_aload_n (i := 0) dX10_sheet_67 rfl rfl ?_
                  refine wp_iconst (v := nI 1) dX10_sheet_68 rfl ?_
                  refine wp_callVI (vs := [.int (nI 1)]) (rest := []) dX10_sheet_69 mV_X10_error lm_X10_62 hC_0 rfl rfl rfl (Nat.le_of_ble_eq_true rfl) (CallI.mono h (fun y25 σ24 h => ?_))
                  exact wp_ireturn dX10_sheet_72 rfl ⟨_, rfl, h⟩
              · replace h := h.2 q
                refine wp_aload_n (i := 0) dX10_sheet_55 rfl rfl ?_
                refine wp_iconst (v := nI 3) dX10_sheet_56 rfl ?_
                refine wp_callVI (vs := [.int (nI 3)]) (rest := []) dX10_sheet_57 mV_X10_error lm_X10_62 hC_0 rfl rfl rfl (Nat.le_of_ble_eq_true rfl) (CallI.mono h (fun y27 σ26 h => ?_))
                exact wp_ireturn dX10_sheet_60 rfl ⟨_, rfl, h⟩
            · replace h := h.2 q
              refine wp_aload_n (i := 0) dX10_sheet_39 rfl rfl ?_
              refine wp_getR (t := 59) dX10_sheet_40 lf_X10_43 hC_0 rfl ?_
              refine wp_iload_n (i := 1) dX10_sheet_43 rfl rfl ?_
              refine wp_iconst (v := nI 0) dX10_sheet_44 rfl ?_
              refine wp_iconst (v := nI 0) dX10_sheet_45 rfl ?_
              refine wp_callVN (vs := [.int x1, .int (nI 0), .int (nI 0)]) (rest := []) dX10_sheet_46 mV_X5_renew lm_X10_291 hC_59 rfl rfl rfl (Nat.le_of_ble_eq_true rfl) (CallN.mono h (fun σ28 h => ?_))
              refine wp_iconst (v := nI 1) dX10_sheet_49 rfl ?_
              exact wp_ireturn dX10_sheet_50 rfl ⟨_, rfl, h⟩
          · replace h := h.2 q
            refine wp_aload_n (i := 0) dX10_sheet_29 rfl rfl ?_
            refine wp_iconst (v := nI 1) dX10_sheet_30 rfl ?_
            refine wp_callVI (vs := [.int (nI 1)]) (rest := []) dX10_sheet_31 mV_X10_error lm_X10_62 hC_0 rfl rfl rfl (Nat.le_of_ble_eq_true rfl) (CallI.mono h (fun y30 σ29 h => ?_))
            exact wp_ireturn dX10_sheet_34 rfl ⟨_, rfl, h⟩
set_option maxRecDepth 20000 in
set_option maxHeartbeats 2000000 in
theorem vc_Sheets_setNumber {E : KE} {d : Nat} {x1 : Int32} {x2 : Int32} {x3 : Int32} {σ : Sg} {K : Sg → Prop} (h : vp_in x1 4 ∧ ((¬ (σ 60 x1.toNatClampNeg) = (nI 8) → vp_in x1 4 ∧ ((¬ (σ 60 x1.toNatClampNeg) = (nI 16) → vp_in ((x1 * (nI 24)) + x2) 96 ∧ (∀ σ1, σ1 = k_put σ 62 (upd (σ 62) ((x1 * (nI 24)) + x2).toNatClampNeg x3) → K σ1)) ∧ ((σ 60 x1.toNatClampNeg) = (nI 16) → vp_in ((x1 * (nI 24)) + x2) 96 ∧ (∀ σ3, σ3 = k_put σ 62 (upd (σ 62) ((x1 * (nI 24)) + x2).toNatClampNeg x3.toInt16.toInt32) → K σ3)))) ∧ ((σ 60 x1.toNatClampNeg) = (nI 8) → vp_in ((x1 * (nI 24)) + x2) 96 ∧ (∀ σ5, σ5 = k_put σ 62 (upd (σ 62) ((x1 * (nI 24)) + x2).toNatClampNeg x3.toInt8.toInt32) → K σ5)))) : CallN E shC d mX5_setNumber [.ref 59, .int x1, .int x2, .int x3] σ K := by
  refine wp_enter (Lo := [some (.ref 59), some (.int x1), some (.int x2), some (.int x3), none]) mp_X5_setNumber (Nat.le_of_ble_eq_true rfl) rfl ?_
  refine wp_aload_n (i := 0) dX5_setNumber_0 rfl rfl ?_
  refine wp_getR (t := 60) dX5_setNumber_1 lf_X5_9 hC_59 rfl ?_
  refine wp_iload_n (i := 1) dX5_setNumber_4 rfl rfl ?_
  refine wp_iald dX5_setNumber_5 hC_60 ⟨h.1, ?_⟩
  replace h := h.2
  refine wp_bipush (v := nI 8) dX5_setNumber_6 (by decide) ?_
  refine wp_icmpne (tgt := 16) dX5_setNumber_8 (by decide) ⟨fun q => ?_, fun q => ?_⟩
  · replace h := h.1 q
    refine wp_aload_n (i := 0) dX5_setNumber_16 rfl rfl ?_
    refine wp_getR (t := 60) dX5_setNumber_17 lf_X5_9 hC_59 rfl ?_
    refine wp_iload_n (i := 1) dX5_setNumber_20 rfl rfl ?_
    refine wp_iald dX5_setNumber_21 hC_60 ⟨h.1, ?_⟩
    replace h := h.2
    refine wp_bipush (v := nI 16) dX5_setNumber_22 (by decide) ?_
    refine wp_icmpne (tgt := 32) dX5_setNumber_24 (by decide) ⟨fun q => ?_, fun q => ?_⟩
    · replace h := h.1 q
      refine wp_iload_n (i := 3) dX5_setNumber_32 rfl rfl ?_
      refine wp_istore (i := 4) (Lo' := [some (.ref 59), some (.int x1), some (.int x2), some (.int x3), some (.int x3)]) dX5_setNumber_33 (by decide) rfl rfl ?_
      refine wp_aload_n (i := 0) dX5_setNumber_35 rfl rfl ?_
      refine wp_getR (t := 62) dX5_setNumber_36 lf_X5_18 hC_59 rfl ?_
      refine wp_iload_n (i := 1) dX5_setNumber_39 rfl rfl ?_
      refine wp_bipush (v := nI 24) dX5_setNumber_40 (by decide) ?_
      refine wp_imul dX5_setNumber_42 ?_
      refine wp_iload_n (i := 2) dX5_setNumber_43 rfl rfl ?_
      refine wp_iadd dX5_setNumber_44 ?_
      refine wp_iload (i := 4) dX5_setNumber_45 rfl ?_
      refine wp_iast dX5_setNumber_47 hC_62 ⟨h.1, ?_⟩
      refine wp_nm (fun σ1 e2 => ?_)
      replace h := h.2 σ1 e2
      exact wp_return dX5_setNumber_48 rfl ⟨rfl, h⟩
    · replace h := h.2 q
      refine wp_iload_n (i := 3) dX5_setNumber_27 rfl rfl ?_
      refine wp_i2s dX5_setNumber_28 ?_
      refine wp_goto (tgt := 33) dX5_setNumber_29 (by decide) ?_
      refine wp_istore (i := 4) (Lo' := [some (.ref 59), some (.int x1), some (.int x2), some (.int x3), some (.int x3.toInt16.toInt32)]) dX5_setNumber_33 (by decide) rfl rfl ?_
      refine wp_aload_n (i := 0) dX5_setNumber_35 rfl rfl ?_
      refine wp_getR (t := 62) dX5_setNumber_36 lf_X5_18 hC_59 rfl ?_
      refine wp_iload_n (i := 1) dX5_setNumber_39 rfl rfl ?_
      refine wp_bipush (v := nI 24) dX5_setNumber_40 (by decide) ?_
      refine wp_imul dX5_setNumber_42 ?_
      refine wp_iload_n (i := 2) dX5_setNumber_43 rfl rfl ?_
      refine wp_iadd dX5_setNumber_44 ?_
      refine wp_iload (i := 4) dX5_setNumber_45 rfl ?_
      refine wp_iast dX5_setNumber_47 hC_62 ⟨h.1, ?_⟩
      refine wp_nm (fun σ3 e4 => ?_)
      replace h := h.2 σ3 e4
      exact wp_return dX5_setNumber_48 rfl ⟨rfl, h⟩
  · replace h := h.2 q
    refine wp_iload_n (i := 3) dX5_setNumber_11 rfl rfl ?_
    refine wp_i2b dX5_setNumber_12 ?_
    refine wp_goto (tgt := 33) dX5_setNumber_13 (by decide) ?_
    refine wp_istore (i := 4) (Lo' := [some (.ref 59), some (.int x1), some (.int x2), some (.int x3), some (.int x3.toInt8.toInt32)]) dX5_setNumber_33 (by decide) rfl rfl ?_
    refine wp_aload_n (i := 0) dX5_setNumber_35 rfl rfl ?_
    refine wp_getR (t := 62) dX5_setNumber_36 lf_X5_18 hC_59 rfl ?_
    refine wp_iload_n (i := 1) dX5_setNumber_39 rfl rfl ?_
    refine wp_bipush (v := nI 24) dX5_setNumber_40 (by decide) ?_
    refine wp_imul dX5_setNumber_42 ?_
    refine wp_iload_n (i := 2) dX5_setNumber_43 rfl rfl ?_
    refine wp_iadd dX5_setNumber_44 ?_
    refine wp_iload (i := 4) dX5_setNumber_45 rfl ?_
    refine wp_iast dX5_setNumber_47 hC_62 ⟨h.1, ?_⟩
    refine wp_nm (fun σ5 e6 => ?_)
    replace h := h.2 σ5 e6
    exact wp_return dX5_setNumber_48 rfl ⟨rfl, h⟩
set_option maxRecDepth 20000 in
set_option maxHeartbeats 2000000 in
theorem vc_SD_put {E : KE} {d : Nat} {x1 : Int32} {x2 : Int32} {x3 : Int32} {σ : Sg} {K : Int32 → Sg → Prop} (h : CallI E shC d mX5_isSheet [.int x1] σ (fun y2 σ1 => (¬ y2 = 0 → CallI E shC d mX5_isMissing [.ref 59, .int x1] σ1 (fun y4 σ3 => (y4 = 0 → vp_in x1 4 ∧ (CallI E shC d mX10_isWithin [.int x2, .int (nI 0), .int ((σ3 61 x1.toNatClampNeg) - (nI 1))] σ3 (fun y6 σ5 => (¬ y6 = 0 → CallN E shC d mX5_setNumber [.ref 59, .int x1, .int x2, .int x3] σ5 (fun σ7 => K (nI 1) σ7)) ∧ (y6 = 0 → CallI E shC d mX10_error [.ref 0, .int (nI 1)] σ5 (fun y9 σ8 => K y9 σ8))))) ∧ (¬ y4 = 0 → CallI E shC d mX10_error [.ref 0, .int (nI 2)] σ3 (fun y11 σ10 => K y11 σ10)))) ∧ (y2 = 0 → CallI E shC d mX10_error [.ref 0, .int (nI 1)] σ1 (fun y13 σ12 => K y13 σ12)))) : CallI E shC (d + 1) mX10_put [.ref 0, .int x1, .int x2, .int x3] σ K := by
  refine wp_enter (Lo := [some (.ref 0), some (.int x1), some (.int x2), some (.int x3)]) mp_X10_put (Nat.le_of_ble_eq_true rfl) rfl ?_
  refine wp_iload_n (i := 1) dX10_put_0 rfl rfl ?_
  refine wp_callSI (vs := [.int x1]) (rest := []) dX10_put_1 mS_X5_isSheet lm_X10_262 rfl rfl (Nat.le_of_ble_eq_true rfl) (CallI.mono h (fun y2 σ1 h => ?_))
  refine wp_ifne (tgt := 13) dX10_put_4 (by decide) ⟨fun q => ?_, fun q => ?_⟩
  · replace h := h.1 q
    refine wp_aload_n (i := 0) dX10_put_13 rfl rfl ?_
    refine wp_getR (t := 59) dX10_put_14 lf_X10_43 hC_0 rfl ?_
    refine wp_iload_n (i := 1) dX10_put_17 rfl rfl ?_
    refine wp_callVI (vs := [.int x1]) (rest := []) dX10_put_18 mV_X5_isMissing lm_X10_265 hC_59 rfl rfl rfl (Nat.le_of_ble_eq_true rfl) (CallI.mono h (fun y4 σ3 h => ?_))
    refine wp_ifeq (tgt := 30) dX10_put_21 (by decide) ⟨fun q => ?_, fun q => ?_⟩
    · replace h := h.1 q
      refine wp_iload_n (i := 2) dX10_put_30 rfl rfl ?_
      refine wp_iconst (v := nI 0) dX10_put_31 rfl ?_
      refine wp_aload_n (i := 0) dX10_put_32 rfl rfl ?_
      refine wp_getR (t := 59) dX10_put_33 lf_X10_43 hC_0 rfl ?_
      refine wp_getR (t := 61) dX10_put_36 lf_X10_271 hC_59 rfl ?_
      refine wp_iload_n (i := 1) dX10_put_39 rfl rfl ?_
      refine wp_iald dX10_put_40 hC_61 ⟨h.1, ?_⟩
      replace h := h.2
      refine wp_iconst (v := nI 1) dX10_put_41 rfl ?_
      refine wp_isub dX10_put_42 ?_
      refine wp_callSI (vs := [.int x2, .int (nI 0), .int ((σ3 61 x1.toNatClampNeg) - (nI 1))]) (rest := []) dX10_put_43 mS_X10_isWithin lm_X10_81 rfl rfl (Nat.le_of_ble_eq_true rfl) (CallI.mono h (fun y6 σ5 h => ?_))
      refine wp_ifne (tgt := 55) dX10_put_46 (by decide) ⟨fun q => ?_, fun q => ?_⟩
      · replace h := h.1 q
        refine wp_aload_n (i := 0) dX10_put_55 rfl rfl ?_
        refine wp_getR (t := 59) dX10_put_56 lf_X10_43 hC_0 rfl ?_
        refine wp_iload_n (i := 1) dX10_put_59 rfl rfl ?_
        refine wp_iload_n (i := 2) dX10_put_60 rfl rfl ?_
        refine wp_iload_n (i := 3) dX10_put_61 rfl rfl ?_
        refine wp_callVN (vs := [.int x1, .int x2, .int x3]) (rest := []) dX10_put_62 mV_X5_setNumber lm_X10_294 hC_59 rfl rfl rfl (Nat.le_of_ble_eq_true rfl) (CallN.mono h (fun σ7 h => ?_))
        refine wp_iconst (v := nI 1) dX10_put_65 rfl ?_
        exact wp_ireturn dX10_put_66 rfl ⟨_, rfl, h⟩
      · replace h := h.2 q
        refine wp_aload_n (i := 0) dX10_put_49 rfl rfl ?_
        refine wp_iconst (v := nI 1) dX10_put_50 rfl ?_
        refine wp_callVI (vs := [.int (nI 1)]) (rest := []) dX10_put_51 mV_X10_error lm_X10_62 hC_0 rfl rfl rfl (Nat.le_of_ble_eq_true rfl) (CallI.mono h (fun y9 σ8 h => ?_))
        exact wp_ireturn dX10_put_54 rfl ⟨_, rfl, h⟩
    · replace h := h.2 q
      refine wp_aload_n (i := 0) dX10_put_24 rfl rfl ?_
      refine wp_iconst (v := nI 2) dX10_put_25 rfl ?_
      refine wp_callVI (vs := [.int (nI 2)]) (rest := []) dX10_put_26 mV_X10_error lm_X10_62 hC_0 rfl rfl rfl (Nat.le_of_ble_eq_true rfl) (CallI.mono h (fun y11 σ10 h => ?_))
      exact wp_ireturn dX10_put_29 rfl ⟨_, rfl, h⟩
  · replace h := h.2 q
    refine wp_aload_n (i := 0) dX10_put_7 rfl rfl ?_
    refine wp_iconst (v := nI 1) dX10_put_8 rfl ?_
    refine wp_callVI (vs := [.int (nI 1)]) (rest := []) dX10_put_9 mV_X10_error lm_X10_62 hC_0 rfl rfl rfl (Nat.le_of_ble_eq_true rfl) (CallI.mono h (fun y13 σ12 h => ?_))
    exact wp_ireturn dX10_put_12 rfl ⟨_, rfl, h⟩
set_option maxRecDepth 20000 in
set_option maxHeartbeats 2000000 in
theorem vc_Sheets_stand {E : KE} {d : Nat} {x1 : Int32} {x2 : Int32} {x3 : Int32} {σ : Sg} {K : Int32 → Sg → Prop} (h : (x2 < 0 → K (nI 0) σ) ∧ (¬ x2 < 0 → vp_in x1 4 ∧ (((σ 61 x1.toNatClampNeg) < x3 → K (nI 0) σ) ∧ (¬ (σ 61 x1.toNatClampNeg) < x3 → vp_in x1 4 ∧ ((((σ 61 x1.toNatClampNeg) - x3) < x2 → K (nI 0) σ) ∧ (¬ ((σ 61 x1.toNatClampNeg) - x3) < x2 → K (nI 1) σ)))))) : CallI E shC d mX5_stand [.ref 59, .int x1, .int x2, .int x3] σ K := by
  refine wp_enter (Lo := [some (.ref 59), some (.int x1), some (.int x2), some (.int x3)]) mp_X5_stand (Nat.le_of_ble_eq_true rfl) rfl ?_
  refine wp_iload_n (i := 2) dX5_stand_0 rfl rfl ?_
  refine wp_iflt (tgt := 30) dX5_stand_1 (by decide) ⟨fun q => ?_, fun q => ?_⟩
  · replace h := h.1 q
    refine wp_iconst (v := nI 0) dX5_stand_30 rfl ?_
    exact wp_zreturn dX5_stand_31 rfl ⟨rfl, _, rfl, h⟩
  · replace h := h.2 q
    refine wp_iload_n (i := 3) dX5_stand_4 rfl rfl ?_
    refine wp_aload_n (i := 0) dX5_stand_5 rfl rfl ?_
    refine wp_getR (t := 61) dX5_stand_6 lf_X5_15 hC_59 rfl ?_
    refine wp_iload_n (i := 1) dX5_stand_9 rfl rfl ?_
    refine wp_iald dX5_stand_10 hC_61 ⟨h.1, ?_⟩
    replace h := h.2
    refine wp_icmpgt (tgt := 30) dX5_stand_11 (by decide) ⟨fun q => ?_, fun q => ?_⟩
    · replace h := h.1 q
      refine wp_iconst (v := nI 0) dX5_stand_30 rfl ?_
      exact wp_zreturn dX5_stand_31 rfl ⟨rfl, _, rfl, h⟩
    · replace h := h.2 q
      refine wp_iload_n (i := 2) dX5_stand_14 rfl rfl ?_
      refine wp_aload_n (i := 0) dX5_stand_15 rfl rfl ?_
      refine wp_getR (t := 61) dX5_stand_16 lf_X5_15 hC_59 rfl ?_
      refine wp_iload_n (i := 1) dX5_stand_19 rfl rfl ?_
      refine wp_iald dX5_stand_20 hC_61 ⟨h.1, ?_⟩
      replace h := h.2
      refine wp_iload_n (i := 3) dX5_stand_21 rfl rfl ?_
      refine wp_isub dX5_stand_22 ?_
      refine wp_icmpgt (tgt := 30) dX5_stand_23 (by decide) ⟨fun q => ?_, fun q => ?_⟩
      · replace h := h.1 q
        refine wp_iconst (v := nI 0) dX5_stand_30 rfl ?_
        exact wp_zreturn dX5_stand_31 rfl ⟨rfl, _, rfl, h⟩
      · replace h := h.2 q
        refine wp_iconst (v := nI 1) dX5_stand_26 rfl ?_
        refine wp_goto (tgt := 31) dX5_stand_27 (by decide) ?_
        exact wp_zreturn dX5_stand_31 rfl ⟨rfl, _, rfl, h⟩
set_option maxRecDepth 20000 in
set_option maxHeartbeats 2000000 in
theorem vc_Sheets_copyNumbers {E : KE} {d : Nat} {x1 : Int32} {x2 : Int32} {x3 : Int32} {x4 : Int32} {x5 : Int32} {σ : Sg} {K : Sg → Prop} (h : (¬ ((x1 * (nI 24)) + x2) < 0 ∧ ¬ ((x3 * (nI 24)) + x4) < 0 ∧ ¬ x5 < 0 ∧ ((x1 * (nI 24)) + x2).toNatClampNeg + x5.toNatClampNeg ≤ 96 ∧ ((x3 * (nI 24)) + x4).toNatClampNeg + x5.toNatClampNeg ≤ 96) ∧ (∀ σ1, σ1 = k_put σ 62 (va_cpy (σ 62) (σ 62) ((x1 * (nI 24)) + x2).toNatClampNeg ((x3 * (nI 24)) + x4).toNatClampNeg x5.toNatClampNeg) → K σ1)) : CallN E shC d mX5_copyNumbers [.ref 59, .int x1, .int x2, .int x3, .int x4, .int x5] σ K := by
  refine wp_enter (Lo := [some (.ref 59), some (.int x1), some (.int x2), some (.int x3), some (.int x4), some (.int x5), none, none]) mp_X5_copyNumbers (Nat.le_of_ble_eq_true rfl) rfl ?_
  refine wp_iload_n (i := 1) dX5_copyNumbers_0 rfl rfl ?_
  refine wp_bipush (v := nI 24) dX5_copyNumbers_1 (by decide) ?_
  refine wp_imul dX5_copyNumbers_3 ?_
  refine wp_iload_n (i := 2) dX5_copyNumbers_4 rfl rfl ?_
  refine wp_iadd dX5_copyNumbers_5 ?_
  refine wp_istore (i := 6) (Lo' := [some (.ref 59), some (.int x1), some (.int x2), some (.int x3), some (.int x4), some (.int x5), some (.int ((x1 * (nI 24)) + x2)), none]) dX5_copyNumbers_6 (by decide) rfl rfl ?_
  refine wp_iload_n (i := 3) dX5_copyNumbers_8 rfl rfl ?_
  refine wp_bipush (v := nI 24) dX5_copyNumbers_9 (by decide) ?_
  refine wp_imul dX5_copyNumbers_11 ?_
  refine wp_iload (i := 4) dX5_copyNumbers_12 rfl ?_
  refine wp_iadd dX5_copyNumbers_14 ?_
  refine wp_istore (i := 7) (Lo' := [some (.ref 59), some (.int x1), some (.int x2), some (.int x3), some (.int x4), some (.int x5), some (.int ((x1 * (nI 24)) + x2)), some (.int ((x3 * (nI 24)) + x4))]) dX5_copyNumbers_15 (by decide) rfl rfl ?_
  refine wp_aload_n (i := 0) dX5_copyNumbers_17 rfl rfl ?_
  refine wp_getR (t := 62) dX5_copyNumbers_18 lf_X5_18 hC_59 rfl ?_
  refine wp_iload (i := 6) dX5_copyNumbers_21 rfl ?_
  refine wp_aload_n (i := 0) dX5_copyNumbers_23 rfl rfl ?_
  refine wp_getR (t := 62) dX5_copyNumbers_24 lf_X5_18 hC_59 rfl ?_
  refine wp_iload (i := 7) dX5_copyNumbers_27 rfl ?_
  refine wp_iload (i := 5) dX5_copyNumbers_29 rfl ?_
  refine wp_copy dX5_copyNumbers_31 lc_X5_21_copy hC_62 hC_62 (Nat.le_of_ble_eq_true rfl) ⟨h.1, ?_⟩
  refine wp_nm (fun σ1 e2 => ?_)
  replace h := h.2 σ1 e2
  exact wp_return dX5_copyNumbers_34 rfl ⟨rfl, h⟩
set_option maxRecDepth 20000 in
set_option maxHeartbeats 2000000 in
theorem vc_SD_move {E : KE} {d : Nat} {x1 : Int32} {x2 : Int32} {x3 : Int32} {x4 : Int32} {x5 : Int32} {σ : Sg} {K : Int32 → Sg → Prop} (h : CallI E shC d mX5_isSheet [.int x1] σ (fun y2 σ1 => (y2 = 0 → CallI E shC d mX10_error [.ref 0, .int (nI 1)] σ1 (fun y4 σ3 => K y4 σ3)) ∧ (¬ y2 = 0 → CallI E shC d mX5_isSheet [.int x3] σ1 (fun y6 σ5 => (¬ y6 = 0 → CallI E shC d mX5_isMissing [.ref 59, .int x1] σ5 (fun y8 σ7 => (¬ y8 = 0 → CallI E shC d mX10_error [.ref 0, .int (nI 2)] σ7 (fun y10 σ9 => K y10 σ9)) ∧ (y8 = 0 → CallI E shC d mX5_isMissing [.ref 59, .int x3] σ7 (fun y12 σ11 => (y12 = 0 → vp_in x1 4 ∧ (vp_in x3 4 ∧ (((σ11 60 x1.toNatClampNeg) = (σ11 60 x3.toNatClampNeg) → (x5 < 0 → CallI E shC d mX10_error [.ref 0, .int (nI 1)] σ11 (fun y14 σ13 => K y14 σ13)) ∧ (¬ x5 < 0 → CallI E shC d mX5_stand [.ref 59, .int x1, .int x2, .int x5] σ11 (fun y16 σ15 => (y16 = 0 → CallI E shC d mX10_error [.ref 0, .int (nI 1)] σ15 (fun y18 σ17 => K y18 σ17)) ∧ (¬ y16 = 0 → CallI E shC d mX5_stand [.ref 59, .int x3, .int x4, .int x5] σ15 (fun y20 σ19 => (¬ y20 = 0 → CallN E shC d mX5_copyNumbers [.ref 59, .int x1, .int x2, .int x3, .int x4, .int x5] σ19 (fun σ21 => K x5 σ21)) ∧ (y20 = 0 → CallI E shC d mX10_error [.ref 0, .int (nI 1)] σ19 (fun y23 σ22 => K y23 σ22))))))) ∧ (¬ (σ11 60 x1.toNatClampNeg) = (σ11 60 x3.toNatClampNeg) → CallI E shC d mX10_error [.ref 0, .int (nI 5)] σ11 (fun y25 σ24 => K y25 σ24))))) ∧ (¬ y12 = 0 → CallI E shC d mX10_error [.ref 0, .int (nI 2)] σ11 (fun y27 σ26 => K y27 σ26)))))) ∧ (y6 = 0 → CallI E shC d mX10_error [.ref 0, .int (nI 1)] σ5 (fun y29 σ28 => K y29 σ28)))))) : CallI E shC (d + 1) mX10_move [.ref 0, .int x1, .int x2, .int x3, .int x4, .int x5] σ K := by
  refine wp_enter (Lo := [some (.ref 0), some (.int x1), some (.int x2), some (.int x3), some (.int x4), some (.int x5)]) mp_X10_move (Nat.le_of_ble_eq_true rfl) rfl ?_
  refine wp_iload_n (i := 1) dX10_move_0 rfl rfl ?_
  refine wp_callSI (vs := [.int x1]) (rest := []) dX10_move_1 mS_X5_isSheet lm_X10_262 rfl rfl (Nat.le_of_ble_eq_true rfl) (CallI.mono h (fun y2 σ1 h => ?_))
  refine wp_ifeq (tgt := 14) dX10_move_4 (by decide) ⟨fun q => ?_, fun q => ?_⟩
  · replace h := h.1 q
    refine wp_aload_n (i := 0) dX10_move_14 rfl rfl ?_
    refine wp_iconst (v := nI 1) dX10_move_15 rfl ?_
    refine wp_callVI (vs := [.int (nI 1)]) (rest := []) dX10_move_16 mV_X10_error lm_X10_62 hC_0 rfl rfl rfl (Nat.le_of_ble_eq_true rfl) (CallI.mono h (fun y4 σ3 h => ?_))
    exact wp_ireturn dX10_move_19 rfl ⟨_, rfl, h⟩
  · replace h := h.2 q
    refine wp_iload_n (i := 3) dX10_move_7 rfl rfl ?_
    refine wp_callSI (vs := [.int x3]) (rest := []) dX10_move_8 mS_X5_isSheet lm_X10_262 rfl rfl (Nat.le_of_ble_eq_true rfl) (CallI.mono h (fun y6 σ5 h => ?_))
    refine wp_ifne (tgt := 20) dX10_move_11 (by decide) ⟨fun q => ?_, fun q => ?_⟩
    · replace h := h.1 q
      refine wp_aload_n (i := 0) dX10_move_20 rfl rfl ?_
      refine wp_getR (t := 59) dX10_move_21 lf_X10_43 hC_0 rfl ?_
      refine wp_iload_n (i := 1) dX10_move_24 rfl rfl ?_
      refine wp_callVI (vs := [.int x1]) (rest := []) dX10_move_25 mV_X5_isMissing lm_X10_265 hC_59 rfl rfl rfl (Nat.le_of_ble_eq_true rfl) (CallI.mono h (fun y8 σ7 h => ?_))
      refine wp_ifne (tgt := 42) dX10_move_28 (by decide) ⟨fun q => ?_, fun q => ?_⟩
      · replace h := h.1 q
        refine wp_aload_n (i := 0) dX10_move_42 rfl rfl ?_
        refine wp_iconst (v := nI 2) dX10_move_43 rfl ?_
        refine wp_callVI (vs := [.int (nI 2)]) (rest := []) dX10_move_44 mV_X10_error lm_X10_62 hC_0 rfl rfl rfl (Nat.le_of_ble_eq_true rfl) (CallI.mono h (fun y10 σ9 h => ?_))
        exact wp_ireturn dX10_move_47 rfl ⟨_, rfl, h⟩
      · replace h := h.2 q
        refine wp_aload_n (i := 0) dX10_move_31 rfl rfl ?_
        refine wp_getR (t := 59) dX10_move_32 lf_X10_43 hC_0 rfl ?_
        refine wp_iload_n (i := 3) dX10_move_35 rfl rfl ?_
        refine wp_callVI (vs := [.int x3]) (rest := []) dX10_move_36 mV_X5_isMissing lm_X10_265 hC_59 rfl rfl rfl (Nat.le_of_ble_eq_true rfl) (CallI.mono h (fun y12 σ11 h => ?_))
        refine wp_ifeq (tgt := 48) dX10_move_39 (by decide) ⟨fun q => ?_, fun q => ?_⟩
        · replace h := h.1 q
          refine wp_aload_n (i := 0) dX10_move_48 rfl rfl ?_
          refine wp_getR (t := 59) dX10_move_49 lf_X10_43 hC_0 rfl ?_
          refine wp_getR (t := 60) dX10_move_52 lf_X10_297 hC_59 rfl ?_
          refine wp_iload_n (i := 1) dX10_move_55 rfl rfl ?_
          refine wp_iald dX10_move_56 hC_60 ⟨h.1, ?_⟩
          replace h := h.2
          refine wp_aload_n (i := 0) dX10_move_57 rfl rfl ?_
          refine wp_getR (t := 59) dX10_move_58 lf_X10_43 hC_0 rfl ?_
          refine wp_getR (t := 60) dX10_move_61 lf_X10_297 hC_59 rfl ?_
          refine wp_iload_n (i := 3) dX10_move_64 rfl rfl ?_
          refine wp_iald dX10_move_65 hC_60 ⟨h.1, ?_⟩
          replace h := h.2
          refine wp_icmpeq (tgt := 75) dX10_move_66 (by decide) ⟨fun q => ?_, fun q => ?_⟩
          · replace h := h.1 q
            refine wp_iload (i := 5) dX10_move_75 rfl ?_
            refine wp_iflt (tgt := 109) dX10_move_77 (by decide) ⟨fun q => ?_, fun q => ?_⟩
            · replace h := h.1 q
              refine wp_aload_n (i := 0) dX10_move_109 rfl rfl ?_
              refine wp_iconst (v := nI 1) dX10_move_110 rfl ?_
              refine wp_callVI (vs := [.int (nI 1)]) (rest := []) dX10_move_111 mV_X10_error lm_X10_62 hC_0 rfl rfl rfl (Nat.le_of_ble_eq_true rfl) (CallI.mono h (fun y14 σ13 h => ?_))
              exact wp_ireturn dX10_move_114 rfl ⟨_, rfl, h⟩
            · replace h := h.2 q
              refine wp_aload_n (i := 0) dX10_move_80 rfl rfl ?_
              refine wp_getR (t := 59) dX10_move_81 lf_X10_43 hC_0 rfl ?_
              refine wp_iload_n (i := 1) dX10_move_84 rfl rfl ?_
              refine wp_iload_n (i := 2) dX10_move_85 rfl rfl ?_
              refine wp_iload (i := 5) dX10_move_86 rfl ?_
              refine wp_callVI (vs := [.int x1, .int x2, .int x5]) (rest := []) dX10_move_88 mV_X5_stand lm_X10_300 hC_59 rfl rfl rfl (Nat.le_of_ble_eq_true rfl) (CallI.mono h (fun y16 σ15 h => ?_))
              refine wp_ifeq (tgt := 109) dX10_move_91 (by decide) ⟨fun q => ?_, fun q => ?_⟩
              · replace h := h.1 q
                refine wp_aload_n (i := 0) dX10_move_109 rfl rfl ?_
                refine wp_iconst (v := nI 1) dX10_move_110 rfl ?_
                refine wp_callVI (vs := [.int (nI 1)]) (rest := []) dX10_move_111 mV_X10_error lm_X10_62 hC_0 rfl rfl rfl (Nat.le_of_ble_eq_true rfl) (CallI.mono h (fun y18 σ17 h => ?_))
                exact wp_ireturn dX10_move_114 rfl ⟨_, rfl, h⟩
              · replace h := h.2 q
                refine wp_aload_n (i := 0) dX10_move_94 rfl rfl ?_
                refine wp_getR (t := 59) dX10_move_95 lf_X10_43 hC_0 rfl ?_
                refine wp_iload_n (i := 3) dX10_move_98 rfl rfl ?_
                refine wp_iload (i := 4) dX10_move_99 rfl ?_
                refine wp_iload (i := 5) dX10_move_101 rfl ?_
                refine wp_callVI (vs := [.int x3, .int x4, .int x5]) (rest := []) dX10_move_103 mV_X5_stand lm_X10_300 hC_59 rfl rfl rfl (Nat.le_of_ble_eq_true rfl) (CallI.mono h (fun y20 σ19 h => ?_))
                refine wp_ifne (tgt := 115) dX10_move_106 (by decide) ⟨fun q => ?_, fun q => ?_⟩
                · replace h := h.1 q
                  refine wp_aload_n (i := 0) dX10_move_115 rfl rfl ?_
                  refine wp_getR (t := 59) dX10_move_116 lf_X10_43 hC_0 rfl ?_
                  refine wp_iload_n (i := 1) dX10_move_119 rfl rfl ?_
                  refine wp_iload_n (i := 2) dX10_move_120 rfl rfl ?_
                  refine wp_iload_n (i := 3) dX10_move_121 rfl rfl ?_
                  refine wp_iload (i := 4) dX10_move_122 rfl ?_
                  refine wp_iload (i := 5) dX10_move_124 rfl ?_
                  refine wp_callVN (vs := [.int x1, .int x2, .int x3, .int x4, .int x5]) (rest := []) dX10_move_126 mV_X5_copyNumbers lm_X10_303 hC_59 rfl rfl rfl (Nat.le_of_ble_eq_true rfl) (CallN.mono h (fun σ21 h => ?_))
                  refine wp_iload (i := 5) dX10_move_129 rfl ?_
                  exact wp_ireturn dX10_move_131 rfl ⟨_, rfl, h⟩
                · replace h := h.2 q
                  refine wp_aload_n (i := 0) dX10_move_109 rfl rfl ?_
                  refine wp_iconst (v := nI 1) dX10_move_110 rfl ?_
                  refine wp_callVI (vs := [.int (nI 1)]) (rest := []) dX10_move_111 mV_X10_error lm_X10_62 hC_0 rfl rfl rfl (Nat.le_of_ble_eq_true rfl) (CallI.mono h (fun y23 σ22 h => ?_))
                  exact wp_ireturn dX10_move_114 rfl ⟨_, rfl, h⟩
          · replace h := h.2 q
            refine wp_aload_n (i := 0) dX10_move_69 rfl rfl ?_
            refine wp_iconst (v := nI 5) dX10_move_70 rfl ?_
            refine wp_callVI (vs := [.int (nI 5)]) (rest := []) dX10_move_71 mV_X10_error lm_X10_62 hC_0 rfl rfl rfl (Nat.le_of_ble_eq_true rfl) (CallI.mono h (fun y25 σ24 h => ?_))
            exact wp_ireturn dX10_move_74 rfl ⟨_, rfl, h⟩
        · replace h := h.2 q
          refine wp_aload_n (i := 0) dX10_move_42 rfl rfl ?_
          refine wp_iconst (v := nI 2) dX10_move_43 rfl ?_
          refine wp_callVI (vs := [.int (nI 2)]) (rest := []) dX10_move_44 mV_X10_error lm_X10_62 hC_0 rfl rfl rfl (Nat.le_of_ble_eq_true rfl) (CallI.mono h (fun y27 σ26 h => ?_))
          exact wp_ireturn dX10_move_47 rfl ⟨_, rfl, h⟩
    · replace h := h.2 q
      refine wp_aload_n (i := 0) dX10_move_14 rfl rfl ?_
      refine wp_iconst (v := nI 1) dX10_move_15 rfl ?_
      refine wp_callVI (vs := [.int (nI 1)]) (rest := []) dX10_move_16 mV_X10_error lm_X10_62 hC_0 rfl rfl rfl (Nat.le_of_ble_eq_true rfl) (CallI.mono h (fun y29 σ28 h => ?_))
      exact wp_ireturn dX10_move_19 rfl ⟨_, rfl, h⟩
set_option maxRecDepth 20000 in
set_option maxHeartbeats 2000000 in
theorem vb_SD_funds_55 {E : KE} {d : Nat} {x1 : Int32} {x2 : Int32} {x3 : Int32} {σ : Sg} {K : Int32 → Sg → Prop} (h : (x2 ≤ x3 → K x2 σ) ∧ (¬ x2 ≤ x3 → CallI E shC d mX5_numberAt [.ref 59, .int x1, .int x3] σ (fun y2 σ1 => CallI E shC d mX10_isWithin [.int y2, .int (nI 0), .int (nI 9999)] σ1 (fun y4 σ3 => (¬ y4 = 0 → vp_in x3 6 ∧ (∀ σ5, σ5 = k_put σ3 6 (upd (σ3 6) x3.toNatClampNeg y2) → WP E shC mX10_funds (d + 1) 55 [some (.ref 0), some (.int x1), some (.int x2), some (.int (x3 + nI 1)), none] [] σ5 (k_qi K))) ∧ (y4 = 0 → K x3 σ3))))) : WP E shC mX10_funds (d + 1) 55 [some (.ref 0), some (.int x1), some (.int x2), some (.int x3), none] [] σ (k_qi K) := by
  refine wp_iload_n (i := 3) dX10_funds_55 rfl rfl ?_
  refine wp_iload_n (i := 2) dX10_funds_56 rfl rfl ?_
  refine wp_icmpge (tgt := 105) dX10_funds_57 (by decide) ⟨fun q => ?_, fun q => ?_⟩
  · replace h := h.1 q
    refine wp_iload_n (i := 2) dX10_funds_105 rfl rfl ?_
    exact wp_ireturn dX10_funds_106 rfl ⟨_, rfl, h⟩
  · replace h := h.2 q
    refine wp_aload_n (i := 0) dX10_funds_60 rfl rfl ?_
    refine wp_getR (t := 59) dX10_funds_61 lf_X10_43 hC_0 rfl ?_
    refine wp_iload_n (i := 1) dX10_funds_64 rfl rfl ?_
    refine wp_iload_n (i := 3) dX10_funds_65 rfl rfl ?_
    refine wp_callVI (vs := [.int x1, .int x3]) (rest := []) dX10_funds_66 mV_X5_numberAt lm_X10_274 hC_59 rfl rfl rfl (Nat.le_of_ble_eq_true rfl) (CallI.mono h (fun y2 σ1 h => ?_))
    refine wp_istore (i := 4) (Lo' := [some (.ref 0), some (.int x1), some (.int x2), some (.int x3), some (.int y2)]) dX10_funds_69 (by decide) rfl rfl ?_
    refine wp_iload (i := 4) dX10_funds_71 rfl ?_
    refine wp_iconst (v := nI 0) dX10_funds_73 rfl ?_
    refine wp_sipush (v := nI 9999) dX10_funds_74 (by decide) ?_
    refine wp_callSI (vs := [.int y2, .int (nI 0), .int (nI 9999)]) (rest := []) dX10_funds_77 mS_X10_isWithin lm_X10_81 rfl rfl (Nat.le_of_ble_eq_true rfl) (CallI.mono h (fun y4 σ3 h => ?_))
    refine wp_ifne (tgt := 85) dX10_funds_80 (by decide) ⟨fun q => ?_, fun q => ?_⟩
    · replace h := h.1 q
      refine wp_aload_n (i := 0) dX10_funds_85 rfl rfl ?_
      refine wp_getR (t := 1) dX10_funds_86 lf_X10_10 hC_0 rfl ?_
      refine wp_getR (t := 2) dX10_funds_89 lf_X10_66 hC_1 rfl ?_
      refine wp_getR (t := 6) dX10_funds_92 lf_X10_94 hC_2 rfl ?_
      refine wp_iload_n (i := 3) dX10_funds_95 rfl rfl ?_
      refine wp_iload (i := 4) dX10_funds_96 rfl ?_
      refine wp_iast dX10_funds_98 hC_6 ⟨h.1, ?_⟩
      refine wp_nm (fun σ5 e6 => ?_)
      replace h := h.2 σ5 e6
      refine wp_iinc (i := 3) (v := x3 + nI 1) (Lo' := [some (.ref 0), some (.int x1), some (.int x2), some (.int (x3 + nI 1)), some (.int y2)]) dX10_funds_99 rfl (by rfl) (by decide) rfl rfl ?_
      refine wp_goto (tgt := 55) dX10_funds_102 (by decide) ?_
      exact wp_mask [true, true, true, true, false] h
    · replace h := h.2 q
      refine wp_iload_n (i := 3) dX10_funds_83 rfl rfl ?_
      exact wp_ireturn dX10_funds_84 rfl ⟨_, rfl, h⟩
set_option maxRecDepth 20000 in
set_option maxHeartbeats 2000000 in
theorem vc_SD_funds {E : KE} {d : Nat} {x1 : Int32} {σ : Sg} {K : Int32 → Sg → Prop} (h : CallI E shC d mX5_isSheet [.int x1] σ (fun y2 σ1 => (¬ y2 = 0 → CallI E shC d mX5_isMissing [.ref 59, .int x1] σ1 (fun y4 σ3 => (y4 = 0 → vp_in x1 4 ∧ (WP E shC mX10_funds (d + 1) 55 [some (.ref 0), some (.int x1), some (.int (if (σ3 2 5) < (σ3 61 x1.toNatClampNeg) then (σ3 2 5) else (σ3 61 x1.toNatClampNeg))), some (.int (nI 0)), none] [] σ3 (k_qi K))) ∧ (¬ y4 = 0 → CallI E shC d mX10_error [.ref 0, .int (nI 2)] σ3 (fun y6 σ5 => K y6 σ5)))) ∧ (y2 = 0 → CallI E shC d mX10_error [.ref 0, .int (nI 1)] σ1 (fun y8 σ7 => K y8 σ7)))) : CallI E shC (d + 1) mX10_funds [.ref 0, .int x1] σ K := by
  refine wp_enter (Lo := [some (.ref 0), some (.int x1), none, none, none]) mp_X10_funds (Nat.le_of_ble_eq_true rfl) rfl ?_
  refine wp_iload_n (i := 1) dX10_funds_0 rfl rfl ?_
  refine wp_callSI (vs := [.int x1]) (rest := []) dX10_funds_1 mS_X5_isSheet lm_X10_262 rfl rfl (Nat.le_of_ble_eq_true rfl) (CallI.mono h (fun y2 σ1 h => ?_))
  refine wp_ifne (tgt := 13) dX10_funds_4 (by decide) ⟨fun q => ?_, fun q => ?_⟩
  · replace h := h.1 q
    refine wp_aload_n (i := 0) dX10_funds_13 rfl rfl ?_
    refine wp_getR (t := 59) dX10_funds_14 lf_X10_43 hC_0 rfl ?_
    refine wp_iload_n (i := 1) dX10_funds_17 rfl rfl ?_
    refine wp_callVI (vs := [.int x1]) (rest := []) dX10_funds_18 mV_X5_isMissing lm_X10_265 hC_59 rfl rfl rfl (Nat.le_of_ble_eq_true rfl) (CallI.mono h (fun y4 σ3 h => ?_))
    refine wp_ifeq (tgt := 30) dX10_funds_21 (by decide) ⟨fun q => ?_, fun q => ?_⟩
    · replace h := h.1 q
      refine wp_aload_n (i := 0) dX10_funds_30 rfl rfl ?_
      refine wp_getR (t := 59) dX10_funds_31 lf_X10_43 hC_0 rfl ?_
      refine wp_getR (t := 61) dX10_funds_34 lf_X10_271 hC_59 rfl ?_
      refine wp_iload_n (i := 1) dX10_funds_37 rfl rfl ?_
      refine wp_iald dX10_funds_38 hC_61 ⟨h.1, ?_⟩
      replace h := h.2
      refine wp_aload_n (i := 0) dX10_funds_39 rfl rfl ?_
      refine wp_getR (t := 1) dX10_funds_40 lf_X10_10 hC_0 rfl ?_
      refine wp_getR (t := 2) dX10_funds_43 lf_X10_66 hC_1 rfl ?_
      refine wp_getI dX10_funds_46 lf_X10_70 hC_2 rfl ?_
      refine wp_mmin dX10_funds_49 (lmin lm_X10_307) (Nat.le_of_ble_eq_true rfl) ?_
      refine wp_istore_n (i := 2) (Lo' := [some (.ref 0), some (.int x1), some (.int (if (σ3 2 5) < (σ3 61 x1.toNatClampNeg) then (σ3 2 5) else (σ3 61 x1.toNatClampNeg))), none, none]) dX10_funds_52 rfl (by decide) rfl rfl ?_
      refine wp_iconst (v := nI 0) dX10_funds_53 rfl ?_
      refine wp_istore_n (i := 3) (Lo' := [some (.ref 0), some (.int x1), some (.int (if (σ3 2 5) < (σ3 61 x1.toNatClampNeg) then (σ3 2 5) else (σ3 61 x1.toNatClampNeg))), some (.int (nI 0)), none]) dX10_funds_54 rfl (by decide) rfl rfl ?_
      exact wp_mask [true, true, true, true, false] h
    · replace h := h.2 q
      refine wp_aload_n (i := 0) dX10_funds_24 rfl rfl ?_
      refine wp_iconst (v := nI 2) dX10_funds_25 rfl ?_
      refine wp_callVI (vs := [.int (nI 2)]) (rest := []) dX10_funds_26 mV_X10_error lm_X10_62 hC_0 rfl rfl rfl (Nat.le_of_ble_eq_true rfl) (CallI.mono h (fun y6 σ5 h => ?_))
      exact wp_ireturn dX10_funds_29 rfl ⟨_, rfl, h⟩
  · replace h := h.2 q
    refine wp_aload_n (i := 0) dX10_funds_7 rfl rfl ?_
    refine wp_iconst (v := nI 1) dX10_funds_8 rfl ?_
    refine wp_callVI (vs := [.int (nI 1)]) (rest := []) dX10_funds_9 mV_X10_error lm_X10_62 hC_0 rfl rfl rfl (Nat.le_of_ble_eq_true rfl) (CallI.mono h (fun y8 σ7 h => ?_))
    exact wp_ireturn dX10_funds_12 rfl ⟨_, rfl, h⟩
set_option maxRecDepth 20000 in
set_option maxHeartbeats 2000000 in
theorem vb_SD_judge_42 {E : KE} {d : Nat} {x1 : Int32} {x2 : Int32} {x3 : Int32} {σ : Sg} {K : Int32 → Sg → Prop} (h : (x2 ≤ x3 → K x2 σ) ∧ (¬ x2 ≤ x3 → CallI E shC d mX5_numberAt [.ref 59, .int x1, .int x3] σ (fun y2 σ1 => CallI E shC d mX9_dayIn [.ref 1, .int x3] σ1 (fun y4 σ3 => CallI E shC d mX1_howManyUp [.ref 2, .int y4] σ3 (fun y6 σ5 => (y2 = y6 → WP E shC mX10_judge (d + 1) 42 [some (.ref 0), some (.int x1), some (.int x2), some (.int (x3 + nI 1))] [] σ5 (k_qi K)) ∧ (¬ y2 = y6 → K x3 σ5)))))) : WP E shC mX10_judge (d + 1) 42 [some (.ref 0), some (.int x1), some (.int x2), some (.int x3)] [] σ (k_qi K) := by
  refine wp_iload_n (i := 3) dX10_judge_42 rfl rfl ?_
  refine wp_iload_n (i := 2) dX10_judge_43 rfl rfl ?_
  refine wp_icmpge (tgt := 85) dX10_judge_44 (by decide) ⟨fun q => ?_, fun q => ?_⟩
  · replace h := h.1 q
    refine wp_iload_n (i := 2) dX10_judge_85 rfl rfl ?_
    exact wp_ireturn dX10_judge_86 rfl ⟨_, rfl, h⟩
  · replace h := h.2 q
    refine wp_aload_n (i := 0) dX10_judge_47 rfl rfl ?_
    refine wp_getR (t := 59) dX10_judge_48 lf_X10_43 hC_0 rfl ?_
    refine wp_iload_n (i := 1) dX10_judge_51 rfl rfl ?_
    refine wp_iload_n (i := 3) dX10_judge_52 rfl rfl ?_
    refine wp_callVI (vs := [.int x1, .int x3]) (rest := []) dX10_judge_53 mV_X5_numberAt lm_X10_274 hC_59 rfl rfl rfl (Nat.le_of_ble_eq_true rfl) (CallI.mono h (fun y2 σ1 h => ?_))
    refine wp_aload_n (i := 0) dX10_judge_56 rfl rfl ?_
    refine wp_getR (t := 1) dX10_judge_57 lf_X10_10 hC_0 rfl ?_
    refine wp_getR (t := 2) dX10_judge_60 lf_X10_66 hC_1 rfl ?_
    refine wp_aload_n (i := 0) dX10_judge_63 rfl rfl ?_
    refine wp_getR (t := 1) dX10_judge_64 lf_X10_10 hC_0 rfl ?_
    refine wp_iload_n (i := 3) dX10_judge_67 rfl rfl ?_
    refine wp_callVI (vs := [.int x3]) (rest := [.ref 2, .int y2]) dX10_judge_68 mV_X9_dayIn lm_X10_97 hC_1 rfl rfl rfl (Nat.le_of_ble_eq_true rfl) (CallI.mono h (fun y4 σ3 h => ?_))
    refine wp_callVI (vs := [.int y4]) (rest := [.int y2]) dX10_judge_71 mV_X1_howManyUp lm_X10_222 hC_2 rfl rfl rfl (Nat.le_of_ble_eq_true rfl) (CallI.mono h (fun y6 σ5 h => ?_))
    refine wp_icmpeq (tgt := 79) dX10_judge_74 (by decide) ⟨fun q => ?_, fun q => ?_⟩
    · replace h := h.1 q
      refine wp_iinc (i := 3) (v := x3 + nI 1) (Lo' := [some (.ref 0), some (.int x1), some (.int x2), some (.int (x3 + nI 1))]) dX10_judge_79 rfl (by rfl) (by decide) rfl rfl ?_
      refine wp_goto (tgt := 42) dX10_judge_82 (by decide) ?_
      exact wp_mask [true, true, true, true] h
    · replace h := h.2 q
      refine wp_iload_n (i := 3) dX10_judge_77 rfl rfl ?_
      exact wp_ireturn dX10_judge_78 rfl ⟨_, rfl, h⟩
set_option maxRecDepth 20000 in
set_option maxHeartbeats 2000000 in
theorem vc_SD_judge {E : KE} {d : Nat} {x1 : Int32} {σ : Sg} {K : Int32 → Sg → Prop} (h : CallI E shC d mX5_isSheet [.int x1] σ (fun y2 σ1 => (¬ y2 = 0 → CallI E shC d mX5_isMissing [.ref 59, .int x1] σ1 (fun y4 σ3 => (y4 = 0 → vp_in x1 4 ∧ (WP E shC mX10_judge (d + 1) 42 [some (.ref 0), some (.int x1), some (.int (σ3 61 x1.toNatClampNeg)), some (.int (nI 0))] [] σ3 (k_qi K))) ∧ (¬ y4 = 0 → CallI E shC d mX10_error [.ref 0, .int (nI 2)] σ3 (fun y6 σ5 => K y6 σ5)))) ∧ (y2 = 0 → CallI E shC d mX10_error [.ref 0, .int (nI 1)] σ1 (fun y8 σ7 => K y8 σ7)))) : CallI E shC (d + 1) mX10_judge [.ref 0, .int x1] σ K := by
  refine wp_enter (Lo := [some (.ref 0), some (.int x1), none, none]) mp_X10_judge (Nat.le_of_ble_eq_true rfl) rfl ?_
  refine wp_iload_n (i := 1) dX10_judge_0 rfl rfl ?_
  refine wp_callSI (vs := [.int x1]) (rest := []) dX10_judge_1 mS_X5_isSheet lm_X10_262 rfl rfl (Nat.le_of_ble_eq_true rfl) (CallI.mono h (fun y2 σ1 h => ?_))
  refine wp_ifne (tgt := 13) dX10_judge_4 (by decide) ⟨fun q => ?_, fun q => ?_⟩
  · replace h := h.1 q
    refine wp_aload_n (i := 0) dX10_judge_13 rfl rfl ?_
    refine wp_getR (t := 59) dX10_judge_14 lf_X10_43 hC_0 rfl ?_
    refine wp_iload_n (i := 1) dX10_judge_17 rfl rfl ?_
    refine wp_callVI (vs := [.int x1]) (rest := []) dX10_judge_18 mV_X5_isMissing lm_X10_265 hC_59 rfl rfl rfl (Nat.le_of_ble_eq_true rfl) (CallI.mono h (fun y4 σ3 h => ?_))
    refine wp_ifeq (tgt := 30) dX10_judge_21 (by decide) ⟨fun q => ?_, fun q => ?_⟩
    · replace h := h.1 q
      refine wp_aload_n (i := 0) dX10_judge_30 rfl rfl ?_
      refine wp_getR (t := 59) dX10_judge_31 lf_X10_43 hC_0 rfl ?_
      refine wp_getR (t := 61) dX10_judge_34 lf_X10_271 hC_59 rfl ?_
      refine wp_iload_n (i := 1) dX10_judge_37 rfl rfl ?_
      refine wp_iald dX10_judge_38 hC_61 ⟨h.1, ?_⟩
      replace h := h.2
      refine wp_istore_n (i := 2) (Lo' := [some (.ref 0), some (.int x1), some (.int (σ3 61 x1.toNatClampNeg)), none]) dX10_judge_39 rfl (by decide) rfl rfl ?_
      refine wp_iconst (v := nI 0) dX10_judge_40 rfl ?_
      refine wp_istore_n (i := 3) (Lo' := [some (.ref 0), some (.int x1), some (.int (σ3 61 x1.toNatClampNeg)), some (.int (nI 0))]) dX10_judge_41 rfl (by decide) rfl rfl ?_
      exact wp_mask [true, true, true, true] h
    · replace h := h.2 q
      refine wp_aload_n (i := 0) dX10_judge_24 rfl rfl ?_
      refine wp_iconst (v := nI 2) dX10_judge_25 rfl ?_
      refine wp_callVI (vs := [.int (nI 2)]) (rest := []) dX10_judge_26 mV_X10_error lm_X10_62 hC_0 rfl rfl rfl (Nat.le_of_ble_eq_true rfl) (CallI.mono h (fun y6 σ5 h => ?_))
      exact wp_ireturn dX10_judge_29 rfl ⟨_, rfl, h⟩
  · replace h := h.2 q
    refine wp_aload_n (i := 0) dX10_judge_7 rfl rfl ?_
    refine wp_iconst (v := nI 1) dX10_judge_8 rfl ?_
    refine wp_callVI (vs := [.int (nI 1)]) (rest := []) dX10_judge_9 mV_X10_error lm_X10_62 hC_0 rfl rfl rfl (Nat.le_of_ble_eq_true rfl) (CallI.mono h (fun y8 σ7 h => ?_))
    exact wp_ireturn dX10_judge_12 rfl ⟨_, rfl, h⟩
set_option maxRecDepth 20000 in
set_option maxHeartbeats 2000000 in
theorem vc_People_copyFrom_25_2 {E : KE} {d : Nat} {σ : Sg} {K : Sg → Prop} (h : ∀ σ1, σ1 = k_put σ 25 (upd (σ 25) 5 (σ 2 5)) → (¬ (nI 0) < 0 ∧ ¬ (nI 0) < 0 ∧ ¬ (nI 6) < 0 ∧ (nI 0).toNatClampNeg + (nI 6).toNatClampNeg ≤ 6 ∧ (nI 0).toNatClampNeg + (nI 6).toNatClampNeg ≤ 6) ∧ (∀ σ3, σ3 = k_put σ1 26 (va_cpy (σ1 3) (σ1 26) (nI 0).toNatClampNeg (nI 0).toNatClampNeg (nI 6).toNatClampNeg) → (¬ (nI 0) < 0 ∧ ¬ (nI 0) < 0 ∧ ¬ (nI 6) < 0 ∧ (nI 0).toNatClampNeg + (nI 6).toNatClampNeg ≤ 6 ∧ (nI 0).toNatClampNeg + (nI 6).toNatClampNeg ≤ 6) ∧ (∀ σ5, σ5 = k_put σ3 27 (va_cpy (σ3 4) (σ3 27) (nI 0).toNatClampNeg (nI 0).toNatClampNeg (nI 6).toNatClampNeg) → (¬ (nI 0) < 0 ∧ ¬ (nI 0) < 0 ∧ ¬ (nI 6) < 0 ∧ (nI 0).toNatClampNeg + (nI 6).toNatClampNeg ≤ 6 ∧ (nI 0).toNatClampNeg + (nI 6).toNatClampNeg ≤ 6) ∧ (∀ σ7, σ7 = k_put σ5 28 (va_cpy (σ5 5) (σ5 28) (nI 0).toNatClampNeg (nI 0).toNatClampNeg (nI 6).toNatClampNeg) → (¬ (nI 0) < 0 ∧ ¬ (nI 0) < 0 ∧ ¬ (nI 6) < 0 ∧ (nI 0).toNatClampNeg + (nI 6).toNatClampNeg ≤ 6 ∧ (nI 0).toNatClampNeg + (nI 6).toNatClampNeg ≤ 6) ∧ (∀ σ9, σ9 = k_put σ7 29 (va_cpy (σ7 6) (σ7 29) (nI 0).toNatClampNeg (nI 0).toNatClampNeg (nI 6).toNatClampNeg) → (¬ (nI 0) < 0 ∧ ¬ (nI 0) < 0 ∧ ¬ (nI 168) < 0 ∧ (nI 0).toNatClampNeg + (nI 168).toNatClampNeg ≤ 168 ∧ (nI 0).toNatClampNeg + (nI 168).toNatClampNeg ≤ 168) ∧ (∀ σ11, σ11 = k_put σ9 30 (va_cpy (σ9 7) (σ9 30) (nI 0).toNatClampNeg (nI 0).toNatClampNeg (nI 168).toNatClampNeg) → K σ11)))))) : CallN E shC d mX1_copyFrom [.ref 25, .ref 2] σ K := by
  refine wp_enter (Lo := [some (.ref 25), some (.ref 2)]) mp_X1_copyFrom (Nat.le_of_ble_eq_true rfl) rfl ?_
  refine wp_aload_n (i := 0) dX1_copyFrom_0 rfl rfl ?_
  refine wp_aload_n (i := 1) dX1_copyFrom_1 rfl rfl ?_
  refine wp_getI dX1_copyFrom_2 lf_X1_27 hC_2 rfl ?_
  refine wp_put dX1_copyFrom_5 lp_X1_27 hC_25 rfl ⟨⟨rfl, rfl⟩, ?_⟩
  refine wp_nm (fun σ1 e2 => ?_)
  replace h := h σ1 e2
  refine wp_aload_n (i := 1) dX1_copyFrom_8 rfl rfl ?_
  refine wp_getR (t := 3) dX1_copyFrom_9 lf_X1_9 hC_2 rfl ?_
  refine wp_iconst (v := nI 0) dX1_copyFrom_12 rfl ?_
  refine wp_aload_n (i := 0) dX1_copyFrom_13 rfl rfl ?_
  refine wp_getR (t := 26) dX1_copyFrom_14 lf_X1_9 hC_25 rfl ?_
  refine wp_iconst (v := nI 0) dX1_copyFrom_17 rfl ?_
  refine wp_bipush (v := nI 6) dX1_copyFrom_18 (by decide) ?_
  refine wp_copy dX1_copyFrom_20 lc_X1_60_copy hC_3 hC_26 (Nat.le_of_ble_eq_true rfl) ⟨h.1, ?_⟩
  refine wp_nm (fun σ3 e4 => ?_)
  replace h := h.2 σ3 e4
  refine wp_aload_n (i := 1) dX1_copyFrom_23 rfl rfl ?_
  refine wp_getR (t := 4) dX1_copyFrom_24 lf_X1_15 hC_2 rfl ?_
  refine wp_iconst (v := nI 0) dX1_copyFrom_27 rfl ?_
  refine wp_aload_n (i := 0) dX1_copyFrom_28 rfl rfl ?_
  refine wp_getR (t := 27) dX1_copyFrom_29 lf_X1_15 hC_25 rfl ?_
  refine wp_iconst (v := nI 0) dX1_copyFrom_32 rfl ?_
  refine wp_bipush (v := nI 6) dX1_copyFrom_33 (by decide) ?_
  refine wp_copy dX1_copyFrom_35 lc_X1_60_copy hC_4 hC_27 (Nat.le_of_ble_eq_true rfl) ⟨h.1, ?_⟩
  refine wp_nm (fun σ5 e6 => ?_)
  replace h := h.2 σ5 e6
  refine wp_aload_n (i := 1) dX1_copyFrom_38 rfl rfl ?_
  refine wp_getR (t := 5) dX1_copyFrom_39 lf_X1_18 hC_2 rfl ?_
  refine wp_iconst (v := nI 0) dX1_copyFrom_42 rfl ?_
  refine wp_aload_n (i := 0) dX1_copyFrom_43 rfl rfl ?_
  refine wp_getR (t := 28) dX1_copyFrom_44 lf_X1_18 hC_25 rfl ?_
  refine wp_iconst (v := nI 0) dX1_copyFrom_47 rfl ?_
  refine wp_bipush (v := nI 6) dX1_copyFrom_48 (by decide) ?_
  refine wp_copy dX1_copyFrom_50 lc_X1_60_copy hC_5 hC_28 (Nat.le_of_ble_eq_true rfl) ⟨h.1, ?_⟩
  refine wp_nm (fun σ7 e8 => ?_)
  replace h := h.2 σ7 e8
  refine wp_aload_n (i := 1) dX1_copyFrom_53 rfl rfl ?_
  refine wp_getR (t := 6) dX1_copyFrom_54 lf_X1_21 hC_2 rfl ?_
  refine wp_iconst (v := nI 0) dX1_copyFrom_57 rfl ?_
  refine wp_aload_n (i := 0) dX1_copyFrom_58 rfl rfl ?_
  refine wp_getR (t := 29) dX1_copyFrom_59 lf_X1_21 hC_25 rfl ?_
  refine wp_iconst (v := nI 0) dX1_copyFrom_62 rfl ?_
  refine wp_bipush (v := nI 6) dX1_copyFrom_63 (by decide) ?_
  refine wp_copy dX1_copyFrom_65 lc_X1_60_copy hC_6 hC_29 (Nat.le_of_ble_eq_true rfl) ⟨h.1, ?_⟩
  refine wp_nm (fun σ9 e10 => ?_)
  replace h := h.2 σ9 e10
  refine wp_aload_n (i := 1) dX1_copyFrom_68 rfl rfl ?_
  refine wp_getR (t := 7) dX1_copyFrom_69 lf_X1_24 hC_2 rfl ?_
  refine wp_iconst (v := nI 0) dX1_copyFrom_72 rfl ?_
  refine wp_aload_n (i := 0) dX1_copyFrom_73 rfl rfl ?_
  refine wp_getR (t := 30) dX1_copyFrom_74 lf_X1_24 hC_25 rfl ?_
  refine wp_iconst (v := nI 0) dX1_copyFrom_77 rfl ?_
  refine wp_sipush (v := nI 168) dX1_copyFrom_78 (by decide) ?_
  refine wp_copy dX1_copyFrom_81 lc_X1_60_copy hC_7 hC_30 (Nat.le_of_ble_eq_true rfl) ⟨h.1, ?_⟩
  refine wp_nm (fun σ11 e12 => ?_)
  replace h := h.2 σ11 e12
  exact wp_return dX1_copyFrom_84 rfl ⟨rfl, h⟩
set_option maxRecDepth 20000 in
set_option maxHeartbeats 2000000 in
theorem vc_Promises_copyFrom_31_8 {E : KE} {d : Nat} {σ : Sg} {K : Sg → Prop} (h : ∀ σ1, σ1 = k_put σ 31 (upd (σ 31) 3 (σ 8 3)) → (¬ (nI 0) < 0 ∧ ¬ (nI 0) < 0 ∧ ¬ (nI 8) < 0 ∧ (nI 0).toNatClampNeg + (nI 8).toNatClampNeg ≤ 8 ∧ (nI 0).toNatClampNeg + (nI 8).toNatClampNeg ≤ 8) ∧ (∀ σ3, σ3 = k_put σ1 32 (va_cpy (σ1 9) (σ1 32) (nI 0).toNatClampNeg (nI 0).toNatClampNeg (nI 8).toNatClampNeg) → (¬ (nI 0) < 0 ∧ ¬ (nI 0) < 0 ∧ ¬ (nI 8) < 0 ∧ (nI 0).toNatClampNeg + (nI 8).toNatClampNeg ≤ 8 ∧ (nI 0).toNatClampNeg + (nI 8).toNatClampNeg ≤ 8) ∧ (∀ σ5, σ5 = k_put σ3 33 (va_cpy (σ3 10) (σ3 33) (nI 0).toNatClampNeg (nI 0).toNatClampNeg (nI 8).toNatClampNeg) → (¬ (nI 0) < 0 ∧ ¬ (nI 0) < 0 ∧ ¬ (nI 8) < 0 ∧ (nI 0).toNatClampNeg + (nI 8).toNatClampNeg ≤ 8 ∧ (nI 0).toNatClampNeg + (nI 8).toNatClampNeg ≤ 8) ∧ (∀ σ7, σ7 = k_put σ5 34 (va_cpy (σ5 11) (σ5 34) (nI 0).toNatClampNeg (nI 0).toNatClampNeg (nI 8).toNatClampNeg) → K σ7)))) : CallN E shC d mX2_copyFrom [.ref 31, .ref 8] σ K := by
  refine wp_enter (Lo := [some (.ref 31), some (.ref 8)]) mp_X2_copyFrom (Nat.le_of_ble_eq_true rfl) rfl ?_
  refine wp_aload_n (i := 0) dX2_copyFrom_0 rfl rfl ?_
  refine wp_aload_n (i := 1) dX2_copyFrom_1 rfl rfl ?_
  refine wp_getI dX2_copyFrom_2 lf_X2_21 hC_8 rfl ?_
  refine wp_put dX2_copyFrom_5 lp_X2_21 hC_31 rfl ⟨⟨rfl, rfl⟩, ?_⟩
  refine wp_nm (fun σ1 e2 => ?_)
  replace h := h σ1 e2
  refine wp_aload_n (i := 1) dX2_copyFrom_8 rfl rfl ?_
  refine wp_getR (t := 9) dX2_copyFrom_9 lf_X2_9 hC_8 rfl ?_
  refine wp_iconst (v := nI 0) dX2_copyFrom_12 rfl ?_
  refine wp_aload_n (i := 0) dX2_copyFrom_13 rfl rfl ?_
  refine wp_getR (t := 32) dX2_copyFrom_14 lf_X2_9 hC_31 rfl ?_
  refine wp_iconst (v := nI 0) dX2_copyFrom_17 rfl ?_
  refine wp_bipush (v := nI 8) dX2_copyFrom_18 (by decide) ?_
  refine wp_copy dX2_copyFrom_20 lc_X2_35_copy hC_9 hC_32 (Nat.le_of_ble_eq_true rfl) ⟨h.1, ?_⟩
  refine wp_nm (fun σ3 e4 => ?_)
  replace h := h.2 σ3 e4
  refine wp_aload_n (i := 1) dX2_copyFrom_23 rfl rfl ?_
  refine wp_getR (t := 10) dX2_copyFrom_24 lf_X2_15 hC_8 rfl ?_
  refine wp_iconst (v := nI 0) dX2_copyFrom_27 rfl ?_
  refine wp_aload_n (i := 0) dX2_copyFrom_28 rfl rfl ?_
  refine wp_getR (t := 33) dX2_copyFrom_29 lf_X2_15 hC_31 rfl ?_
  refine wp_iconst (v := nI 0) dX2_copyFrom_32 rfl ?_
  refine wp_bipush (v := nI 8) dX2_copyFrom_33 (by decide) ?_
  refine wp_copy dX2_copyFrom_35 lc_X2_35_copy hC_10 hC_33 (Nat.le_of_ble_eq_true rfl) ⟨h.1, ?_⟩
  refine wp_nm (fun σ5 e6 => ?_)
  replace h := h.2 σ5 e6
  refine wp_aload_n (i := 1) dX2_copyFrom_38 rfl rfl ?_
  refine wp_getR (t := 11) dX2_copyFrom_39 lf_X2_18 hC_8 rfl ?_
  refine wp_iconst (v := nI 0) dX2_copyFrom_42 rfl ?_
  refine wp_aload_n (i := 0) dX2_copyFrom_43 rfl rfl ?_
  refine wp_getR (t := 34) dX2_copyFrom_44 lf_X2_18 hC_31 rfl ?_
  refine wp_iconst (v := nI 0) dX2_copyFrom_47 rfl ?_
  refine wp_bipush (v := nI 8) dX2_copyFrom_48 (by decide) ?_
  refine wp_copy dX2_copyFrom_50 lc_X2_35_copy hC_11 hC_34 (Nat.le_of_ble_eq_true rfl) ⟨h.1, ?_⟩
  refine wp_nm (fun σ7 e8 => ?_)
  replace h := h.2 σ7 e8
  exact wp_return dX2_copyFrom_53 rfl ⟨rfl, h⟩
set_option maxRecDepth 20000 in
set_option maxHeartbeats 2000000 in
theorem vc_Row_copyFrom_36_13 {E : KE} {d : Nat} {σ : Sg} {K : Sg → Prop} (h : ∀ σ1, σ1 = k_put σ 36 (upd (σ 36) 1 (if (nI 60) < (σ 13 1) then (nI 60) else (σ 13 1))) → (¬ (nI 0) < 0 ∧ ¬ (nI 0) < 0 ∧ ¬ (σ1 36 1) < 0 ∧ (nI 0).toNatClampNeg + (σ1 36 1).toNatClampNeg ≤ 60 ∧ (nI 0).toNatClampNeg + (σ1 36 1).toNatClampNeg ≤ 60) ∧ (∀ σ3, σ3 = k_put σ1 37 (va_cpy (σ1 14) (σ1 37) (nI 0).toNatClampNeg (nI 0).toNatClampNeg (σ1 36 1).toNatClampNeg) → K σ3)) : CallN E shC d mX4_copyFrom [.ref 36, .ref 13] σ K := by
  refine wp_enter (Lo := [some (.ref 36), some (.ref 13)]) mp_X4_copyFrom (Nat.le_of_ble_eq_true rfl) rfl ?_
  refine wp_aload_n (i := 0) dX4_copyFrom_0 rfl rfl ?_
  refine wp_aload_n (i := 1) dX4_copyFrom_1 rfl rfl ?_
  refine wp_getI dX4_copyFrom_2 lf_X4_13 hC_13 rfl ?_
  refine wp_aload_n (i := 0) dX4_copyFrom_5 rfl rfl ?_
  refine wp_getR (t := 37) dX4_copyFrom_6 lf_X4_7 hC_36 rfl ?_
  refine wp_alen dX4_copyFrom_9 hC_37 ?_
  refine wp_mmin dX4_copyFrom_10 (lmin lm_X4_17) (Nat.le_of_ble_eq_true rfl) ?_
  refine wp_put dX4_copyFrom_13 lp_X4_13 hC_36 rfl ⟨⟨rfl, rfl⟩, ?_⟩
  refine wp_nm (fun σ1 e2 => ?_)
  replace h := h σ1 e2
  refine wp_aload_n (i := 1) dX4_copyFrom_16 rfl rfl ?_
  refine wp_getR (t := 14) dX4_copyFrom_17 lf_X4_7 hC_13 rfl ?_
  refine wp_iconst (v := nI 0) dX4_copyFrom_20 rfl ?_
  refine wp_aload_n (i := 0) dX4_copyFrom_21 rfl rfl ?_
  refine wp_getR (t := 37) dX4_copyFrom_22 lf_X4_7 hC_36 rfl ?_
  refine wp_iconst (v := nI 0) dX4_copyFrom_25 rfl ?_
  refine wp_aload_n (i := 0) dX4_copyFrom_26 rfl rfl ?_
  refine wp_getI dX4_copyFrom_27 lf_X4_13 hC_36 rfl ?_
  refine wp_copy dX4_copyFrom_30 lc_X4_23_copy hC_14 hC_37 (Nat.le_of_ble_eq_true rfl) ⟨h.1, ?_⟩
  refine wp_nm (fun σ3 e4 => ?_)
  replace h := h.2 σ3 e4
  exact wp_return dX4_copyFrom_33 rfl ⟨rfl, h⟩
set_option maxRecDepth 20000 in
set_option maxHeartbeats 2000000 in
theorem vc_Row_copyFrom_40_17 {E : KE} {d : Nat} {σ : Sg} {K : Sg → Prop} (h : ∀ σ1, σ1 = k_put σ 40 (upd (σ 40) 1 (if (nI 60) < (σ 17 1) then (nI 60) else (σ 17 1))) → (¬ (nI 0) < 0 ∧ ¬ (nI 0) < 0 ∧ ¬ (σ1 40 1) < 0 ∧ (nI 0).toNatClampNeg + (σ1 40 1).toNatClampNeg ≤ 60 ∧ (nI 0).toNatClampNeg + (σ1 40 1).toNatClampNeg ≤ 60) ∧ (∀ σ3, σ3 = k_put σ1 41 (va_cpy (σ1 18) (σ1 41) (nI 0).toNatClampNeg (nI 0).toNatClampNeg (σ1 40 1).toNatClampNeg) → K σ3)) : CallN E shC d mX4_copyFrom [.ref 40, .ref 17] σ K := by
  refine wp_enter (Lo := [some (.ref 40), some (.ref 17)]) mp_X4_copyFrom (Nat.le_of_ble_eq_true rfl) rfl ?_
  refine wp_aload_n (i := 0) dX4_copyFrom_0 rfl rfl ?_
  refine wp_aload_n (i := 1) dX4_copyFrom_1 rfl rfl ?_
  refine wp_getI dX4_copyFrom_2 lf_X4_13 hC_17 rfl ?_
  refine wp_aload_n (i := 0) dX4_copyFrom_5 rfl rfl ?_
  refine wp_getR (t := 41) dX4_copyFrom_6 lf_X4_7 hC_40 rfl ?_
  refine wp_alen dX4_copyFrom_9 hC_41 ?_
  refine wp_mmin dX4_copyFrom_10 (lmin lm_X4_17) (Nat.le_of_ble_eq_true rfl) ?_
  refine wp_put dX4_copyFrom_13 lp_X4_13 hC_40 rfl ⟨⟨rfl, rfl⟩, ?_⟩
  refine wp_nm (fun σ1 e2 => ?_)
  replace h := h σ1 e2
  refine wp_aload_n (i := 1) dX4_copyFrom_16 rfl rfl ?_
  refine wp_getR (t := 18) dX4_copyFrom_17 lf_X4_7 hC_17 rfl ?_
  refine wp_iconst (v := nI 0) dX4_copyFrom_20 rfl ?_
  refine wp_aload_n (i := 0) dX4_copyFrom_21 rfl rfl ?_
  refine wp_getR (t := 41) dX4_copyFrom_22 lf_X4_7 hC_40 rfl ?_
  refine wp_iconst (v := nI 0) dX4_copyFrom_25 rfl ?_
  refine wp_aload_n (i := 0) dX4_copyFrom_26 rfl rfl ?_
  refine wp_getI dX4_copyFrom_27 lf_X4_13 hC_40 rfl ?_
  refine wp_copy dX4_copyFrom_30 lc_X4_23_copy hC_18 hC_41 (Nat.le_of_ble_eq_true rfl) ⟨h.1, ?_⟩
  refine wp_nm (fun σ3 e4 => ?_)
  replace h := h.2 σ3 e4
  exact wp_return dX4_copyFrom_33 rfl ⟨rfl, h⟩
set_option maxRecDepth 20000 in
set_option maxHeartbeats 2000000 in
theorem vc_Row_copyFrom_43_20 {E : KE} {d : Nat} {σ : Sg} {K : Sg → Prop} (h : ∀ σ1, σ1 = k_put σ 43 (upd (σ 43) 1 (if (nI 60) < (σ 20 1) then (nI 60) else (σ 20 1))) → (¬ (nI 0) < 0 ∧ ¬ (nI 0) < 0 ∧ ¬ (σ1 43 1) < 0 ∧ (nI 0).toNatClampNeg + (σ1 43 1).toNatClampNeg ≤ 60 ∧ (nI 0).toNatClampNeg + (σ1 43 1).toNatClampNeg ≤ 60) ∧ (∀ σ3, σ3 = k_put σ1 44 (va_cpy (σ1 21) (σ1 44) (nI 0).toNatClampNeg (nI 0).toNatClampNeg (σ1 43 1).toNatClampNeg) → K σ3)) : CallN E shC d mX4_copyFrom [.ref 43, .ref 20] σ K := by
  refine wp_enter (Lo := [some (.ref 43), some (.ref 20)]) mp_X4_copyFrom (Nat.le_of_ble_eq_true rfl) rfl ?_
  refine wp_aload_n (i := 0) dX4_copyFrom_0 rfl rfl ?_
  refine wp_aload_n (i := 1) dX4_copyFrom_1 rfl rfl ?_
  refine wp_getI dX4_copyFrom_2 lf_X4_13 hC_20 rfl ?_
  refine wp_aload_n (i := 0) dX4_copyFrom_5 rfl rfl ?_
  refine wp_getR (t := 44) dX4_copyFrom_6 lf_X4_7 hC_43 rfl ?_
  refine wp_alen dX4_copyFrom_9 hC_44 ?_
  refine wp_mmin dX4_copyFrom_10 (lmin lm_X4_17) (Nat.le_of_ble_eq_true rfl) ?_
  refine wp_put dX4_copyFrom_13 lp_X4_13 hC_43 rfl ⟨⟨rfl, rfl⟩, ?_⟩
  refine wp_nm (fun σ1 e2 => ?_)
  replace h := h σ1 e2
  refine wp_aload_n (i := 1) dX4_copyFrom_16 rfl rfl ?_
  refine wp_getR (t := 21) dX4_copyFrom_17 lf_X4_7 hC_20 rfl ?_
  refine wp_iconst (v := nI 0) dX4_copyFrom_20 rfl ?_
  refine wp_aload_n (i := 0) dX4_copyFrom_21 rfl rfl ?_
  refine wp_getR (t := 44) dX4_copyFrom_22 lf_X4_7 hC_43 rfl ?_
  refine wp_iconst (v := nI 0) dX4_copyFrom_25 rfl ?_
  refine wp_aload_n (i := 0) dX4_copyFrom_26 rfl rfl ?_
  refine wp_getI dX4_copyFrom_27 lf_X4_13 hC_43 rfl ?_
  refine wp_copy dX4_copyFrom_30 lc_X4_23_copy hC_21 hC_44 (Nat.le_of_ble_eq_true rfl) ⟨h.1, ?_⟩
  refine wp_nm (fun σ3 e4 => ?_)
  replace h := h.2 σ3 e4
  exact wp_return dX4_copyFrom_33 rfl ⟨rfl, h⟩
set_option maxRecDepth 20000 in
set_option maxHeartbeats 2000000 in
theorem vc_Row_copyFrom_45_22 {E : KE} {d : Nat} {σ : Sg} {K : Sg → Prop} (h : ∀ σ1, σ1 = k_put σ 45 (upd (σ 45) 1 (if (nI 24) < (σ 22 1) then (nI 24) else (σ 22 1))) → (¬ (nI 0) < 0 ∧ ¬ (nI 0) < 0 ∧ ¬ (σ1 45 1) < 0 ∧ (nI 0).toNatClampNeg + (σ1 45 1).toNatClampNeg ≤ 24 ∧ (nI 0).toNatClampNeg + (σ1 45 1).toNatClampNeg ≤ 24) ∧ (∀ σ3, σ3 = k_put σ1 46 (va_cpy (σ1 23) (σ1 46) (nI 0).toNatClampNeg (nI 0).toNatClampNeg (σ1 45 1).toNatClampNeg) → K σ3)) : CallN E shC d mX4_copyFrom [.ref 45, .ref 22] σ K := by
  refine wp_enter (Lo := [some (.ref 45), some (.ref 22)]) mp_X4_copyFrom (Nat.le_of_ble_eq_true rfl) rfl ?_
  refine wp_aload_n (i := 0) dX4_copyFrom_0 rfl rfl ?_
  refine wp_aload_n (i := 1) dX4_copyFrom_1 rfl rfl ?_
  refine wp_getI dX4_copyFrom_2 lf_X4_13 hC_22 rfl ?_
  refine wp_aload_n (i := 0) dX4_copyFrom_5 rfl rfl ?_
  refine wp_getR (t := 46) dX4_copyFrom_6 lf_X4_7 hC_45 rfl ?_
  refine wp_alen dX4_copyFrom_9 hC_46 ?_
  refine wp_mmin dX4_copyFrom_10 (lmin lm_X4_17) (Nat.le_of_ble_eq_true rfl) ?_
  refine wp_put dX4_copyFrom_13 lp_X4_13 hC_45 rfl ⟨⟨rfl, rfl⟩, ?_⟩
  refine wp_nm (fun σ1 e2 => ?_)
  replace h := h σ1 e2
  refine wp_aload_n (i := 1) dX4_copyFrom_16 rfl rfl ?_
  refine wp_getR (t := 23) dX4_copyFrom_17 lf_X4_7 hC_22 rfl ?_
  refine wp_iconst (v := nI 0) dX4_copyFrom_20 rfl ?_
  refine wp_aload_n (i := 0) dX4_copyFrom_21 rfl rfl ?_
  refine wp_getR (t := 46) dX4_copyFrom_22 lf_X4_7 hC_45 rfl ?_
  refine wp_iconst (v := nI 0) dX4_copyFrom_25 rfl ?_
  refine wp_aload_n (i := 0) dX4_copyFrom_26 rfl rfl ?_
  refine wp_getI dX4_copyFrom_27 lf_X4_13 hC_45 rfl ?_
  refine wp_copy dX4_copyFrom_30 lc_X4_23_copy hC_23 hC_46 (Nat.le_of_ble_eq_true rfl) ⟨h.1, ?_⟩
  refine wp_nm (fun σ3 e4 => ?_)
  replace h := h.2 σ3 e4
  exact wp_return dX4_copyFrom_33 rfl ⟨rfl, h⟩
set_option maxRecDepth 20000 in
set_option maxHeartbeats 2000000 in
theorem vc_World_copyFrom_24_1 {E : KE} {d : Nat} {σ : Sg} {K : Sg → Prop} (h : CallN E shC d mX1_copyFrom [.ref 25, .ref 2] σ (fun σ1 => CallN E shC d mX2_copyFrom [.ref 31, .ref 8] σ1 (fun σ2 => CallN E shC d mX4_copyFrom [.ref 36, .ref 13] σ2 (fun σ3 => CallN E shC d mX4_copyFrom [.ref 40, .ref 17] σ3 (fun σ4 => CallN E shC d mX4_copyFrom [.ref 43, .ref 20] σ4 (fun σ5 => CallN E shC d mX4_copyFrom [.ref 45, .ref 22] σ5 (fun σ6 => ∀ σ7, σ7 = k_put σ6 24 (upd (σ6 24) 6 (σ6 1 6)) → ∀ σ9, σ9 = k_put σ7 24 (upd (σ7 24) 7 (σ7 1 7)) → ∀ σ11, σ11 = k_put σ9 24 (upd (σ9 24) 8 (σ9 1 8)) → ∀ σ13, σ13 = k_put σ11 24 (upd (σ11 24) 9 (σ11 1 9)) → ∀ σ15, σ15 = k_put σ13 24 (upd (σ13 24) 10 (σ13 1 10)) → ∀ σ17, σ17 = k_put σ15 24 (upd (σ15 24) 11 (σ15 1 11)) → K σ17))))))) : CallN E shC (d + 1) mX9_copyFrom [.ref 24, .ref 1] σ K := by
  refine wp_enter (Lo := [some (.ref 24), some (.ref 1)]) mp_X9_copyFrom (Nat.le_of_ble_eq_true rfl) rfl ?_
  refine wp_aload_n (i := 0) dX9_copyFrom_0 rfl rfl ?_
  refine wp_getR (t := 25) dX9_copyFrom_1 lf_X9_12 hC_24 rfl ?_
  refine wp_aload_n (i := 1) dX9_copyFrom_4 rfl rfl ?_
  refine wp_getR (t := 2) dX9_copyFrom_5 lf_X9_12 hC_1 rfl ?_
  refine wp_callVN (vs := [.ref 2]) (rest := []) dX9_copyFrom_8 mV_X1_copyFrom lm_X9_158 hC_25 rfl rfl rfl (Nat.le_of_ble_eq_true rfl) (CallN.mono h (fun σ1 h => ?_))
  refine wp_aload_n (i := 0) dX9_copyFrom_11 rfl rfl ?_
  refine wp_getR (t := 31) dX9_copyFrom_12 lf_X9_21 hC_24 rfl ?_
  refine wp_aload_n (i := 1) dX9_copyFrom_15 rfl rfl ?_
  refine wp_getR (t := 8) dX9_copyFrom_16 lf_X9_21 hC_1 rfl ?_
  refine wp_callVN (vs := [.ref 8]) (rest := []) dX9_copyFrom_19 mV_X2_copyFrom lm_X9_162 hC_31 rfl rfl rfl (Nat.le_of_ble_eq_true rfl) (CallN.mono h (fun σ2 h => ?_))
  refine wp_aload_n (i := 0) dX9_copyFrom_22 rfl rfl ?_
  refine wp_getR (t := 35) dX9_copyFrom_23 lf_X9_28 hC_24 rfl ?_
  refine wp_getR (t := 36) dX9_copyFrom_26 lf_X9_165 hC_35 rfl ?_
  refine wp_aload_n (i := 1) dX9_copyFrom_29 rfl rfl ?_
  refine wp_getR (t := 12) dX9_copyFrom_30 lf_X9_28 hC_1 rfl ?_
  refine wp_getR (t := 13) dX9_copyFrom_33 lf_X9_165 hC_12 rfl ?_
  refine wp_callVN (vs := [.ref 13]) (rest := []) dX9_copyFrom_36 mV_X4_copyFrom lm_X9_168 hC_36 rfl rfl rfl (Nat.le_of_ble_eq_true rfl) (CallN.mono h (fun σ3 h => ?_))
  refine wp_aload_n (i := 0) dX9_copyFrom_39 rfl rfl ?_
  refine wp_getR (t := 39) dX9_copyFrom_40 lf_X9_32 hC_24 rfl ?_
  refine wp_getR (t := 40) dX9_copyFrom_43 lf_X9_165 hC_39 rfl ?_
  refine wp_aload_n (i := 1) dX9_copyFrom_46 rfl rfl ?_
  refine wp_getR (t := 16) dX9_copyFrom_47 lf_X9_32 hC_1 rfl ?_
  refine wp_getR (t := 17) dX9_copyFrom_50 lf_X9_165 hC_16 rfl ?_
  refine wp_callVN (vs := [.ref 17]) (rest := []) dX9_copyFrom_53 mV_X4_copyFrom lm_X9_168 hC_40 rfl rfl rfl (Nat.le_of_ble_eq_true rfl) (CallN.mono h (fun σ4 h => ?_))
  refine wp_aload_n (i := 0) dX9_copyFrom_56 rfl rfl ?_
  refine wp_getR (t := 43) dX9_copyFrom_57 lf_X9_40 hC_24 rfl ?_
  refine wp_aload_n (i := 1) dX9_copyFrom_60 rfl rfl ?_
  refine wp_getR (t := 20) dX9_copyFrom_61 lf_X9_40 hC_1 rfl ?_
  refine wp_callVN (vs := [.ref 20]) (rest := []) dX9_copyFrom_64 mV_X4_copyFrom lm_X9_168 hC_43 rfl rfl rfl (Nat.le_of_ble_eq_true rfl) (CallN.mono h (fun σ5 h => ?_))
  refine wp_aload_n (i := 0) dX9_copyFrom_67 rfl rfl ?_
  refine wp_getR (t := 45) dX9_copyFrom_68 lf_X9_44 hC_24 rfl ?_
  refine wp_aload_n (i := 1) dX9_copyFrom_71 rfl rfl ?_
  refine wp_getR (t := 22) dX9_copyFrom_72 lf_X9_44 hC_1 rfl ?_
  refine wp_callVN (vs := [.ref 22]) (rest := []) dX9_copyFrom_75 mV_X4_copyFrom lm_X9_168 hC_45 rfl rfl rfl (Nat.le_of_ble_eq_true rfl) (CallN.mono h (fun σ6 h => ?_))
  refine wp_aload_n (i := 0) dX9_copyFrom_78 rfl rfl ?_
  refine wp_aload_n (i := 1) dX9_copyFrom_79 rfl rfl ?_
  refine wp_getI dX9_copyFrom_80 lf_X9_47 hC_1 rfl ?_
  refine wp_put dX9_copyFrom_83 lp_X9_47 hC_24 rfl ⟨⟨rfl, rfl⟩, ?_⟩
  refine wp_nm (fun σ7 e8 => ?_)
  replace h := h σ7 e8
  refine wp_aload_n (i := 0) dX9_copyFrom_86 rfl rfl ?_
  refine wp_aload_n (i := 1) dX9_copyFrom_87 rfl rfl ?_
  refine wp_getI dX9_copyFrom_88 lf_X9_51 hC_1 rfl ?_
  refine wp_put dX9_copyFrom_91 lp_X9_51 hC_24 rfl ⟨⟨rfl, rfl⟩, ?_⟩
  refine wp_nm (fun σ9 e10 => ?_)
  replace h := h σ9 e10
  refine wp_aload_n (i := 0) dX9_copyFrom_94 rfl rfl ?_
  refine wp_aload_n (i := 1) dX9_copyFrom_95 rfl rfl ?_
  refine wp_getI dX9_copyFrom_96 lf_X9_54 hC_1 rfl ?_
  refine wp_put dX9_copyFrom_99 lp_X9_54 hC_24 rfl ⟨⟨rfl, rfl⟩, ?_⟩
  refine wp_nm (fun σ11 e12 => ?_)
  replace h := h σ11 e12
  refine wp_aload_n (i := 0) dX9_copyFrom_102 rfl rfl ?_
  refine wp_aload_n (i := 1) dX9_copyFrom_103 rfl rfl ?_
  refine wp_getI dX9_copyFrom_104 lf_X9_57 hC_1 rfl ?_
  refine wp_put dX9_copyFrom_107 lp_X9_57 hC_24 rfl ⟨⟨rfl, rfl⟩, ?_⟩
  refine wp_nm (fun σ13 e14 => ?_)
  replace h := h σ13 e14
  refine wp_aload_n (i := 0) dX9_copyFrom_110 rfl rfl ?_
  refine wp_aload_n (i := 1) dX9_copyFrom_111 rfl rfl ?_
  refine wp_getI dX9_copyFrom_112 lf_X9_60 hC_1 rfl ?_
  refine wp_put dX9_copyFrom_115 lp_X9_60 hC_24 rfl ⟨⟨rfl, rfl⟩, ?_⟩
  refine wp_nm (fun σ15 e16 => ?_)
  replace h := h σ15 e16
  refine wp_aload_n (i := 0) dX9_copyFrom_118 rfl rfl ?_
  refine wp_aload_n (i := 1) dX9_copyFrom_119 rfl rfl ?_
  refine wp_getI dX9_copyFrom_120 lf_X9_63 hC_1 rfl ?_
  refine wp_put dX9_copyFrom_123 lp_X9_63 hC_24 rfl ⟨⟨rfl, rfl⟩, ?_⟩
  refine wp_nm (fun σ17 e18 => ?_)
  replace h := h σ17 e18
  exact wp_return dX9_copyFrom_126 rfl ⟨rfl, h⟩
set_option maxRecDepth 20000 in
set_option maxHeartbeats 2000000 in
theorem vc_SD_image {E : KE} {d : Nat} {σ : Sg} {K : Int32 → Sg → Prop} (h : CallN E shC d mX9_copyFrom [.ref 24, .ref 1] σ (fun σ1 => ∀ σ2, σ2 = k_put σ1 0 (upd (σ1 0) 7 ((σ1 0 7) + (nI 1))) → K (σ2 0 7) σ2)) : CallI E shC (d + 1) mX10_image [.ref 0] σ K := by
  refine wp_enter (Lo := [some (.ref 0)]) mp_X10_image (Nat.le_of_ble_eq_true rfl) rfl ?_
  refine wp_aload_n (i := 0) dX10_image_0 rfl rfl ?_
  refine wp_getR (t := 24) dX10_image_1 lf_X10_16 hC_0 rfl ?_
  refine wp_aload_n (i := 0) dX10_image_4 rfl rfl ?_
  refine wp_getR (t := 1) dX10_image_5 lf_X10_10 hC_0 rfl ?_
  refine wp_callVN (vs := [.ref 1]) (rest := []) dX10_image_8 mV_X9_copyFrom lm_X10_312 hC_24 rfl rfl rfl (Nat.le_of_ble_eq_true rfl) (CallN.mono h (fun σ1 h => ?_))
  refine wp_aload_n (i := 0) dX10_image_11 rfl rfl ?_
  refine wp_dup dX10_image_12 rfl ?_
  refine wp_getI dX10_image_13 lf_X10_51 hC_0 rfl ?_
  refine wp_iconst (v := nI 1) dX10_image_16 rfl ?_
  refine wp_iadd dX10_image_17 ?_
  refine wp_put dX10_image_18 lp_X10_51 hC_0 rfl ⟨⟨rfl, rfl⟩, ?_⟩
  refine wp_nm (fun σ2 e3 => ?_)
  replace h := h σ2 e3
  refine wp_aload_n (i := 0) dX10_image_21 rfl rfl ?_
  refine wp_getI dX10_image_22 lf_X10_51 hC_0 rfl ?_
  exact wp_ireturn dX10_image_25 rfl ⟨_, rfl, h⟩
set_option maxRecDepth 20000 in
set_option maxHeartbeats 2000000 in
theorem vc_People_copyFrom_2_25 {E : KE} {d : Nat} {σ : Sg} {K : Sg → Prop} (h : ∀ σ1, σ1 = k_put σ 2 (upd (σ 2) 5 (σ 25 5)) → (¬ (nI 0) < 0 ∧ ¬ (nI 0) < 0 ∧ ¬ (nI 6) < 0 ∧ (nI 0).toNatClampNeg + (nI 6).toNatClampNeg ≤ 6 ∧ (nI 0).toNatClampNeg + (nI 6).toNatClampNeg ≤ 6) ∧ (∀ σ3, σ3 = k_put σ1 3 (va_cpy (σ1 26) (σ1 3) (nI 0).toNatClampNeg (nI 0).toNatClampNeg (nI 6).toNatClampNeg) → (¬ (nI 0) < 0 ∧ ¬ (nI 0) < 0 ∧ ¬ (nI 6) < 0 ∧ (nI 0).toNatClampNeg + (nI 6).toNatClampNeg ≤ 6 ∧ (nI 0).toNatClampNeg + (nI 6).toNatClampNeg ≤ 6) ∧ (∀ σ5, σ5 = k_put σ3 4 (va_cpy (σ3 27) (σ3 4) (nI 0).toNatClampNeg (nI 0).toNatClampNeg (nI 6).toNatClampNeg) → (¬ (nI 0) < 0 ∧ ¬ (nI 0) < 0 ∧ ¬ (nI 6) < 0 ∧ (nI 0).toNatClampNeg + (nI 6).toNatClampNeg ≤ 6 ∧ (nI 0).toNatClampNeg + (nI 6).toNatClampNeg ≤ 6) ∧ (∀ σ7, σ7 = k_put σ5 5 (va_cpy (σ5 28) (σ5 5) (nI 0).toNatClampNeg (nI 0).toNatClampNeg (nI 6).toNatClampNeg) → (¬ (nI 0) < 0 ∧ ¬ (nI 0) < 0 ∧ ¬ (nI 6) < 0 ∧ (nI 0).toNatClampNeg + (nI 6).toNatClampNeg ≤ 6 ∧ (nI 0).toNatClampNeg + (nI 6).toNatClampNeg ≤ 6) ∧ (∀ σ9, σ9 = k_put σ7 6 (va_cpy (σ7 29) (σ7 6) (nI 0).toNatClampNeg (nI 0).toNatClampNeg (nI 6).toNatClampNeg) → (¬ (nI 0) < 0 ∧ ¬ (nI 0) < 0 ∧ ¬ (nI 168) < 0 ∧ (nI 0).toNatClampNeg + (nI 168).toNatClampNeg ≤ 168 ∧ (nI 0).toNatClampNeg + (nI 168).toNatClampNeg ≤ 168) ∧ (∀ σ11, σ11 = k_put σ9 7 (va_cpy (σ9 30) (σ9 7) (nI 0).toNatClampNeg (nI 0).toNatClampNeg (nI 168).toNatClampNeg) → K σ11)))))) : CallN E shC d mX1_copyFrom [.ref 2, .ref 25] σ K := by
  refine wp_enter (Lo := [some (.ref 2), some (.ref 25)]) mp_X1_copyFrom (Nat.le_of_ble_eq_true rfl) rfl ?_
  refine wp_aload_n (i := 0) dX1_copyFrom_0 rfl rfl ?_
  refine wp_aload_n (i := 1) dX1_copyFrom_1 rfl rfl ?_
  refine wp_getI dX1_copyFrom_2 lf_X1_27 hC_25 rfl ?_
  refine wp_put dX1_copyFrom_5 lp_X1_27 hC_2 rfl ⟨⟨rfl, rfl⟩, ?_⟩
  refine wp_nm (fun σ1 e2 => ?_)
  replace h := h σ1 e2
  refine wp_aload_n (i := 1) dX1_copyFrom_8 rfl rfl ?_
  refine wp_getR (t := 26) dX1_copyFrom_9 lf_X1_9 hC_25 rfl ?_
  refine wp_iconst (v := nI 0) dX1_copyFrom_12 rfl ?_
  refine wp_aload_n (i := 0) dX1_copyFrom_13 rfl rfl ?_
  refine wp_getR (t := 3) dX1_copyFrom_14 lf_X1_9 hC_2 rfl ?_
  refine wp_iconst (v := nI 0) dX1_copyFrom_17 rfl ?_
  refine wp_bipush (v := nI 6) dX1_copyFrom_18 (by decide) ?_
  refine wp_copy dX1_copyFrom_20 lc_X1_60_copy hC_26 hC_3 (Nat.le_of_ble_eq_true rfl) ⟨h.1, ?_⟩
  refine wp_nm (fun σ3 e4 => ?_)
  replace h := h.2 σ3 e4
  refine wp_aload_n (i := 1) dX1_copyFrom_23 rfl rfl ?_
  refine wp_getR (t := 27) dX1_copyFrom_24 lf_X1_15 hC_25 rfl ?_
  refine wp_iconst (v := nI 0) dX1_copyFrom_27 rfl ?_
  refine wp_aload_n (i := 0) dX1_copyFrom_28 rfl rfl ?_
  refine wp_getR (t := 4) dX1_copyFrom_29 lf_X1_15 hC_2 rfl ?_
  refine wp_iconst (v := nI 0) dX1_copyFrom_32 rfl ?_
  refine wp_bipush (v := nI 6) dX1_copyFrom_33 (by decide) ?_
  refine wp_copy dX1_copyFrom_35 lc_X1_60_copy hC_27 hC_4 (Nat.le_of_ble_eq_true rfl) ⟨h.1, ?_⟩
  refine wp_nm (fun σ5 e6 => ?_)
  replace h := h.2 σ5 e6
  refine wp_aload_n (i := 1) dX1_copyFrom_38 rfl rfl ?_
  refine wp_getR (t := 28) dX1_copyFrom_39 lf_X1_18 hC_25 rfl ?_
  refine wp_iconst (v := nI 0) dX1_copyFrom_42 rfl ?_
  refine wp_aload_n (i := 0) dX1_copyFrom_43 rfl rfl ?_
  refine wp_getR (t := 5) dX1_copyFrom_44 lf_X1_18 hC_2 rfl ?_
  refine wp_iconst (v := nI 0) dX1_copyFrom_47 rfl ?_
  refine wp_bipush (v := nI 6) dX1_copyFrom_48 (by decide) ?_
  refine wp_copy dX1_copyFrom_50 lc_X1_60_copy hC_28 hC_5 (Nat.le_of_ble_eq_true rfl) ⟨h.1, ?_⟩
  refine wp_nm (fun σ7 e8 => ?_)
  replace h := h.2 σ7 e8
  refine wp_aload_n (i := 1) dX1_copyFrom_53 rfl rfl ?_
  refine wp_getR (t := 29) dX1_copyFrom_54 lf_X1_21 hC_25 rfl ?_
  refine wp_iconst (v := nI 0) dX1_copyFrom_57 rfl ?_
  refine wp_aload_n (i := 0) dX1_copyFrom_58 rfl rfl ?_
  refine wp_getR (t := 6) dX1_copyFrom_59 lf_X1_21 hC_2 rfl ?_
  refine wp_iconst (v := nI 0) dX1_copyFrom_62 rfl ?_
  refine wp_bipush (v := nI 6) dX1_copyFrom_63 (by decide) ?_
  refine wp_copy dX1_copyFrom_65 lc_X1_60_copy hC_29 hC_6 (Nat.le_of_ble_eq_true rfl) ⟨h.1, ?_⟩
  refine wp_nm (fun σ9 e10 => ?_)
  replace h := h.2 σ9 e10
  refine wp_aload_n (i := 1) dX1_copyFrom_68 rfl rfl ?_
  refine wp_getR (t := 30) dX1_copyFrom_69 lf_X1_24 hC_25 rfl ?_
  refine wp_iconst (v := nI 0) dX1_copyFrom_72 rfl ?_
  refine wp_aload_n (i := 0) dX1_copyFrom_73 rfl rfl ?_
  refine wp_getR (t := 7) dX1_copyFrom_74 lf_X1_24 hC_2 rfl ?_
  refine wp_iconst (v := nI 0) dX1_copyFrom_77 rfl ?_
  refine wp_sipush (v := nI 168) dX1_copyFrom_78 (by decide) ?_
  refine wp_copy dX1_copyFrom_81 lc_X1_60_copy hC_30 hC_7 (Nat.le_of_ble_eq_true rfl) ⟨h.1, ?_⟩
  refine wp_nm (fun σ11 e12 => ?_)
  replace h := h.2 σ11 e12
  exact wp_return dX1_copyFrom_84 rfl ⟨rfl, h⟩
set_option maxRecDepth 20000 in
set_option maxHeartbeats 2000000 in
theorem vc_Promises_copyFrom_8_31 {E : KE} {d : Nat} {σ : Sg} {K : Sg → Prop} (h : ∀ σ1, σ1 = k_put σ 8 (upd (σ 8) 3 (σ 31 3)) → (¬ (nI 0) < 0 ∧ ¬ (nI 0) < 0 ∧ ¬ (nI 8) < 0 ∧ (nI 0).toNatClampNeg + (nI 8).toNatClampNeg ≤ 8 ∧ (nI 0).toNatClampNeg + (nI 8).toNatClampNeg ≤ 8) ∧ (∀ σ3, σ3 = k_put σ1 9 (va_cpy (σ1 32) (σ1 9) (nI 0).toNatClampNeg (nI 0).toNatClampNeg (nI 8).toNatClampNeg) → (¬ (nI 0) < 0 ∧ ¬ (nI 0) < 0 ∧ ¬ (nI 8) < 0 ∧ (nI 0).toNatClampNeg + (nI 8).toNatClampNeg ≤ 8 ∧ (nI 0).toNatClampNeg + (nI 8).toNatClampNeg ≤ 8) ∧ (∀ σ5, σ5 = k_put σ3 10 (va_cpy (σ3 33) (σ3 10) (nI 0).toNatClampNeg (nI 0).toNatClampNeg (nI 8).toNatClampNeg) → (¬ (nI 0) < 0 ∧ ¬ (nI 0) < 0 ∧ ¬ (nI 8) < 0 ∧ (nI 0).toNatClampNeg + (nI 8).toNatClampNeg ≤ 8 ∧ (nI 0).toNatClampNeg + (nI 8).toNatClampNeg ≤ 8) ∧ (∀ σ7, σ7 = k_put σ5 11 (va_cpy (σ5 34) (σ5 11) (nI 0).toNatClampNeg (nI 0).toNatClampNeg (nI 8).toNatClampNeg) → K σ7)))) : CallN E shC d mX2_copyFrom [.ref 8, .ref 31] σ K := by
  refine wp_enter (Lo := [some (.ref 8), some (.ref 31)]) mp_X2_copyFrom (Nat.le_of_ble_eq_true rfl) rfl ?_
  refine wp_aload_n (i := 0) dX2_copyFrom_0 rfl rfl ?_
  refine wp_aload_n (i := 1) dX2_copyFrom_1 rfl rfl ?_
  refine wp_getI dX2_copyFrom_2 lf_X2_21 hC_31 rfl ?_
  refine wp_put dX2_copyFrom_5 lp_X2_21 hC_8 rfl ⟨⟨rfl, rfl⟩, ?_⟩
  refine wp_nm (fun σ1 e2 => ?_)
  replace h := h σ1 e2
  refine wp_aload_n (i := 1) dX2_copyFrom_8 rfl rfl ?_
  refine wp_getR (t := 32) dX2_copyFrom_9 lf_X2_9 hC_31 rfl ?_
  refine wp_iconst (v := nI 0) dX2_copyFrom_12 rfl ?_
  refine wp_aload_n (i := 0) dX2_copyFrom_13 rfl rfl ?_
  refine wp_getR (t := 9) dX2_copyFrom_14 lf_X2_9 hC_8 rfl ?_
  refine wp_iconst (v := nI 0) dX2_copyFrom_17 rfl ?_
  refine wp_bipush (v := nI 8) dX2_copyFrom_18 (by decide) ?_
  refine wp_copy dX2_copyFrom_20 lc_X2_35_copy hC_32 hC_9 (Nat.le_of_ble_eq_true rfl) ⟨h.1, ?_⟩
  refine wp_nm (fun σ3 e4 => ?_)
  replace h := h.2 σ3 e4
  refine wp_aload_n (i := 1) dX2_copyFrom_23 rfl rfl ?_
  refine wp_getR (t := 33) dX2_copyFrom_24 lf_X2_15 hC_31 rfl ?_
  refine wp_iconst (v := nI 0) dX2_copyFrom_27 rfl ?_
  refine wp_aload_n (i := 0) dX2_copyFrom_28 rfl rfl ?_
  refine wp_getR (t := 10) dX2_copyFrom_29 lf_X2_15 hC_8 rfl ?_
  refine wp_iconst (v := nI 0) dX2_copyFrom_32 rfl ?_
  refine wp_bipush (v := nI 8) dX2_copyFrom_33 (by decide) ?_
  refine wp_copy dX2_copyFrom_35 lc_X2_35_copy hC_33 hC_10 (Nat.le_of_ble_eq_true rfl) ⟨h.1, ?_⟩
  refine wp_nm (fun σ5 e6 => ?_)
  replace h := h.2 σ5 e6
  refine wp_aload_n (i := 1) dX2_copyFrom_38 rfl rfl ?_
  refine wp_getR (t := 34) dX2_copyFrom_39 lf_X2_18 hC_31 rfl ?_
  refine wp_iconst (v := nI 0) dX2_copyFrom_42 rfl ?_
  refine wp_aload_n (i := 0) dX2_copyFrom_43 rfl rfl ?_
  refine wp_getR (t := 11) dX2_copyFrom_44 lf_X2_18 hC_8 rfl ?_
  refine wp_iconst (v := nI 0) dX2_copyFrom_47 rfl ?_
  refine wp_bipush (v := nI 8) dX2_copyFrom_48 (by decide) ?_
  refine wp_copy dX2_copyFrom_50 lc_X2_35_copy hC_34 hC_11 (Nat.le_of_ble_eq_true rfl) ⟨h.1, ?_⟩
  refine wp_nm (fun σ7 e8 => ?_)
  replace h := h.2 σ7 e8
  exact wp_return dX2_copyFrom_53 rfl ⟨rfl, h⟩
set_option maxRecDepth 20000 in
set_option maxHeartbeats 2000000 in
theorem vc_Row_copyFrom_13_36 {E : KE} {d : Nat} {σ : Sg} {K : Sg → Prop} (h : ∀ σ1, σ1 = k_put σ 13 (upd (σ 13) 1 (if (nI 60) < (σ 36 1) then (nI 60) else (σ 36 1))) → (¬ (nI 0) < 0 ∧ ¬ (nI 0) < 0 ∧ ¬ (σ1 13 1) < 0 ∧ (nI 0).toNatClampNeg + (σ1 13 1).toNatClampNeg ≤ 60 ∧ (nI 0).toNatClampNeg + (σ1 13 1).toNatClampNeg ≤ 60) ∧ (∀ σ3, σ3 = k_put σ1 14 (va_cpy (σ1 37) (σ1 14) (nI 0).toNatClampNeg (nI 0).toNatClampNeg (σ1 13 1).toNatClampNeg) → K σ3)) : CallN E shC d mX4_copyFrom [.ref 13, .ref 36] σ K := by
  refine wp_enter (Lo := [some (.ref 13), some (.ref 36)]) mp_X4_copyFrom (Nat.le_of_ble_eq_true rfl) rfl ?_
  refine wp_aload_n (i := 0) dX4_copyFrom_0 rfl rfl ?_
  refine wp_aload_n (i := 1) dX4_copyFrom_1 rfl rfl ?_
  refine wp_getI dX4_copyFrom_2 lf_X4_13 hC_36 rfl ?_
  refine wp_aload_n (i := 0) dX4_copyFrom_5 rfl rfl ?_
  refine wp_getR (t := 14) dX4_copyFrom_6 lf_X4_7 hC_13 rfl ?_
  refine wp_alen dX4_copyFrom_9 hC_14 ?_
  refine wp_mmin dX4_copyFrom_10 (lmin lm_X4_17) (Nat.le_of_ble_eq_true rfl) ?_
  refine wp_put dX4_copyFrom_13 lp_X4_13 hC_13 rfl ⟨⟨rfl, rfl⟩, ?_⟩
  refine wp_nm (fun σ1 e2 => ?_)
  replace h := h σ1 e2
  refine wp_aload_n (i := 1) dX4_copyFrom_16 rfl rfl ?_
  refine wp_getR (t := 37) dX4_copyFrom_17 lf_X4_7 hC_36 rfl ?_
  refine wp_iconst (v := nI 0) dX4_copyFrom_20 rfl ?_
  refine wp_aload_n (i := 0) dX4_copyFrom_21 rfl rfl ?_
  refine wp_getR (t := 14) dX4_copyFrom_22 lf_X4_7 hC_13 rfl ?_
  refine wp_iconst (v := nI 0) dX4_copyFrom_25 rfl ?_
  refine wp_aload_n (i := 0) dX4_copyFrom_26 rfl rfl ?_
  refine wp_getI dX4_copyFrom_27 lf_X4_13 hC_13 rfl ?_
  refine wp_copy dX4_copyFrom_30 lc_X4_23_copy hC_37 hC_14 (Nat.le_of_ble_eq_true rfl) ⟨h.1, ?_⟩
  refine wp_nm (fun σ3 e4 => ?_)
  replace h := h.2 σ3 e4
  exact wp_return dX4_copyFrom_33 rfl ⟨rfl, h⟩
set_option maxRecDepth 20000 in
set_option maxHeartbeats 2000000 in
theorem vc_Row_copyFrom_17_40 {E : KE} {d : Nat} {σ : Sg} {K : Sg → Prop} (h : ∀ σ1, σ1 = k_put σ 17 (upd (σ 17) 1 (if (nI 60) < (σ 40 1) then (nI 60) else (σ 40 1))) → (¬ (nI 0) < 0 ∧ ¬ (nI 0) < 0 ∧ ¬ (σ1 17 1) < 0 ∧ (nI 0).toNatClampNeg + (σ1 17 1).toNatClampNeg ≤ 60 ∧ (nI 0).toNatClampNeg + (σ1 17 1).toNatClampNeg ≤ 60) ∧ (∀ σ3, σ3 = k_put σ1 18 (va_cpy (σ1 41) (σ1 18) (nI 0).toNatClampNeg (nI 0).toNatClampNeg (σ1 17 1).toNatClampNeg) → K σ3)) : CallN E shC d mX4_copyFrom [.ref 17, .ref 40] σ K := by
  refine wp_enter (Lo := [some (.ref 17), some (.ref 40)]) mp_X4_copyFrom (Nat.le_of_ble_eq_true rfl) rfl ?_
  refine wp_aload_n (i := 0) dX4_copyFrom_0 rfl rfl ?_
  refine wp_aload_n (i := 1) dX4_copyFrom_1 rfl rfl ?_
  refine wp_getI dX4_copyFrom_2 lf_X4_13 hC_40 rfl ?_
  refine wp_aload_n (i := 0) dX4_copyFrom_5 rfl rfl ?_
  refine wp_getR (t := 18) dX4_copyFrom_6 lf_X4_7 hC_17 rfl ?_
  refine wp_alen dX4_copyFrom_9 hC_18 ?_
  refine wp_mmin dX4_copyFrom_10 (lmin lm_X4_17) (Nat.le_of_ble_eq_true rfl) ?_
  refine wp_put dX4_copyFrom_13 lp_X4_13 hC_17 rfl ⟨⟨rfl, rfl⟩, ?_⟩
  refine wp_nm (fun σ1 e2 => ?_)
  replace h := h σ1 e2
  refine wp_aload_n (i := 1) dX4_copyFrom_16 rfl rfl ?_
  refine wp_getR (t := 41) dX4_copyFrom_17 lf_X4_7 hC_40 rfl ?_
  refine wp_iconst (v := nI 0) dX4_copyFrom_20 rfl ?_
  refine wp_aload_n (i := 0) dX4_copyFrom_21 rfl rfl ?_
  refine wp_getR (t := 18) dX4_copyFrom_22 lf_X4_7 hC_17 rfl ?_
  refine wp_iconst (v := nI 0) dX4_copyFrom_25 rfl ?_
  refine wp_aload_n (i := 0) dX4_copyFrom_26 rfl rfl ?_
  refine wp_getI dX4_copyFrom_27 lf_X4_13 hC_17 rfl ?_
  refine wp_copy dX4_copyFrom_30 lc_X4_23_copy hC_41 hC_18 (Nat.le_of_ble_eq_true rfl) ⟨h.1, ?_⟩
  refine wp_nm (fun σ3 e4 => ?_)
  replace h := h.2 σ3 e4
  exact wp_return dX4_copyFrom_33 rfl ⟨rfl, h⟩
set_option maxRecDepth 20000 in
set_option maxHeartbeats 2000000 in
theorem vc_Row_copyFrom_20_43 {E : KE} {d : Nat} {σ : Sg} {K : Sg → Prop} (h : ∀ σ1, σ1 = k_put σ 20 (upd (σ 20) 1 (if (nI 60) < (σ 43 1) then (nI 60) else (σ 43 1))) → (¬ (nI 0) < 0 ∧ ¬ (nI 0) < 0 ∧ ¬ (σ1 20 1) < 0 ∧ (nI 0).toNatClampNeg + (σ1 20 1).toNatClampNeg ≤ 60 ∧ (nI 0).toNatClampNeg + (σ1 20 1).toNatClampNeg ≤ 60) ∧ (∀ σ3, σ3 = k_put σ1 21 (va_cpy (σ1 44) (σ1 21) (nI 0).toNatClampNeg (nI 0).toNatClampNeg (σ1 20 1).toNatClampNeg) → K σ3)) : CallN E shC d mX4_copyFrom [.ref 20, .ref 43] σ K := by
  refine wp_enter (Lo := [some (.ref 20), some (.ref 43)]) mp_X4_copyFrom (Nat.le_of_ble_eq_true rfl) rfl ?_
  refine wp_aload_n (i := 0) dX4_copyFrom_0 rfl rfl ?_
  refine wp_aload_n (i := 1) dX4_copyFrom_1 rfl rfl ?_
  refine wp_getI dX4_copyFrom_2 lf_X4_13 hC_43 rfl ?_
  refine wp_aload_n (i := 0) dX4_copyFrom_5 rfl rfl ?_
  refine wp_getR (t := 21) dX4_copyFrom_6 lf_X4_7 hC_20 rfl ?_
  refine wp_alen dX4_copyFrom_9 hC_21 ?_
  refine wp_mmin dX4_copyFrom_10 (lmin lm_X4_17) (Nat.le_of_ble_eq_true rfl) ?_
  refine wp_put dX4_copyFrom_13 lp_X4_13 hC_20 rfl ⟨⟨rfl, rfl⟩, ?_⟩
  refine wp_nm (fun σ1 e2 => ?_)
  replace h := h σ1 e2
  refine wp_aload_n (i := 1) dX4_copyFrom_16 rfl rfl ?_
  refine wp_getR (t := 44) dX4_copyFrom_17 lf_X4_7 hC_43 rfl ?_
  refine wp_iconst (v := nI 0) dX4_copyFrom_20 rfl ?_
  refine wp_aload_n (i := 0) dX4_copyFrom_21 rfl rfl ?_
  refine wp_getR (t := 21) dX4_copyFrom_22 lf_X4_7 hC_20 rfl ?_
  refine wp_iconst (v := nI 0) dX4_copyFrom_25 rfl ?_
  refine wp_aload_n (i := 0) dX4_copyFrom_26 rfl rfl ?_
  refine wp_getI dX4_copyFrom_27 lf_X4_13 hC_20 rfl ?_
  refine wp_copy dX4_copyFrom_30 lc_X4_23_copy hC_44 hC_21 (Nat.le_of_ble_eq_true rfl) ⟨h.1, ?_⟩
  refine wp_nm (fun σ3 e4 => ?_)
  replace h := h.2 σ3 e4
  exact wp_return dX4_copyFrom_33 rfl ⟨rfl, h⟩
set_option maxRecDepth 20000 in
set_option maxHeartbeats 2000000 in
theorem vc_Row_copyFrom_22_45 {E : KE} {d : Nat} {σ : Sg} {K : Sg → Prop} (h : ∀ σ1, σ1 = k_put σ 22 (upd (σ 22) 1 (if (nI 24) < (σ 45 1) then (nI 24) else (σ 45 1))) → (¬ (nI 0) < 0 ∧ ¬ (nI 0) < 0 ∧ ¬ (σ1 22 1) < 0 ∧ (nI 0).toNatClampNeg + (σ1 22 1).toNatClampNeg ≤ 24 ∧ (nI 0).toNatClampNeg + (σ1 22 1).toNatClampNeg ≤ 24) ∧ (∀ σ3, σ3 = k_put σ1 23 (va_cpy (σ1 46) (σ1 23) (nI 0).toNatClampNeg (nI 0).toNatClampNeg (σ1 22 1).toNatClampNeg) → K σ3)) : CallN E shC d mX4_copyFrom [.ref 22, .ref 45] σ K := by
  refine wp_enter (Lo := [some (.ref 22), some (.ref 45)]) mp_X4_copyFrom (Nat.le_of_ble_eq_true rfl) rfl ?_
  refine wp_aload_n (i := 0) dX4_copyFrom_0 rfl rfl ?_
  refine wp_aload_n (i := 1) dX4_copyFrom_1 rfl rfl ?_
  refine wp_getI dX4_copyFrom_2 lf_X4_13 hC_45 rfl ?_
  refine wp_aload_n (i := 0) dX4_copyFrom_5 rfl rfl ?_
  refine wp_getR (t := 23) dX4_copyFrom_6 lf_X4_7 hC_22 rfl ?_
  refine wp_alen dX4_copyFrom_9 hC_23 ?_
  refine wp_mmin dX4_copyFrom_10 (lmin lm_X4_17) (Nat.le_of_ble_eq_true rfl) ?_
  refine wp_put dX4_copyFrom_13 lp_X4_13 hC_22 rfl ⟨⟨rfl, rfl⟩, ?_⟩
  refine wp_nm (fun σ1 e2 => ?_)
  replace h := h σ1 e2
  refine wp_aload_n (i := 1) dX4_copyFrom_16 rfl rfl ?_
  refine wp_getR (t := 46) dX4_copyFrom_17 lf_X4_7 hC_45 rfl ?_
  refine wp_iconst (v := nI 0) dX4_copyFrom_20 rfl ?_
  refine wp_aload_n (i := 0) dX4_copyFrom_21 rfl rfl ?_
  refine wp_getR (t := 23) dX4_copyFrom_22 lf_X4_7 hC_22 rfl ?_
  refine wp_iconst (v := nI 0) dX4_copyFrom_25 rfl ?_
  refine wp_aload_n (i := 0) dX4_copyFrom_26 rfl rfl ?_
  refine wp_getI dX4_copyFrom_27 lf_X4_13 hC_22 rfl ?_
  refine wp_copy dX4_copyFrom_30 lc_X4_23_copy hC_46 hC_23 (Nat.le_of_ble_eq_true rfl) ⟨h.1, ?_⟩
  refine wp_nm (fun σ3 e4 => ?_)
  replace h := h.2 σ3 e4
  exact wp_return dX4_copyFrom_33 rfl ⟨rfl, h⟩
set_option maxRecDepth 20000 in
set_option maxHeartbeats 2000000 in
theorem vc_World_copyFrom_1_24 {E : KE} {d : Nat} {σ : Sg} {K : Sg → Prop} (h : CallN E shC d mX1_copyFrom [.ref 2, .ref 25] σ (fun σ1 => CallN E shC d mX2_copyFrom [.ref 8, .ref 31] σ1 (fun σ2 => CallN E shC d mX4_copyFrom [.ref 13, .ref 36] σ2 (fun σ3 => CallN E shC d mX4_copyFrom [.ref 17, .ref 40] σ3 (fun σ4 => CallN E shC d mX4_copyFrom [.ref 20, .ref 43] σ4 (fun σ5 => CallN E shC d mX4_copyFrom [.ref 22, .ref 45] σ5 (fun σ6 => ∀ σ7, σ7 = k_put σ6 1 (upd (σ6 1) 6 (σ6 24 6)) → ∀ σ9, σ9 = k_put σ7 1 (upd (σ7 1) 7 (σ7 24 7)) → ∀ σ11, σ11 = k_put σ9 1 (upd (σ9 1) 8 (σ9 24 8)) → ∀ σ13, σ13 = k_put σ11 1 (upd (σ11 1) 9 (σ11 24 9)) → ∀ σ15, σ15 = k_put σ13 1 (upd (σ13 1) 10 (σ13 24 10)) → ∀ σ17, σ17 = k_put σ15 1 (upd (σ15 1) 11 (σ15 24 11)) → K σ17))))))) : CallN E shC (d + 1) mX9_copyFrom [.ref 1, .ref 24] σ K := by
  refine wp_enter (Lo := [some (.ref 1), some (.ref 24)]) mp_X9_copyFrom (Nat.le_of_ble_eq_true rfl) rfl ?_
  refine wp_aload_n (i := 0) dX9_copyFrom_0 rfl rfl ?_
  refine wp_getR (t := 2) dX9_copyFrom_1 lf_X9_12 hC_1 rfl ?_
  refine wp_aload_n (i := 1) dX9_copyFrom_4 rfl rfl ?_
  refine wp_getR (t := 25) dX9_copyFrom_5 lf_X9_12 hC_24 rfl ?_
  refine wp_callVN (vs := [.ref 25]) (rest := []) dX9_copyFrom_8 mV_X1_copyFrom lm_X9_158 hC_2 rfl rfl rfl (Nat.le_of_ble_eq_true rfl) (CallN.mono h (fun σ1 h => ?_))
  refine wp_aload_n (i := 0) dX9_copyFrom_11 rfl rfl ?_
  refine wp_getR (t := 8) dX9_copyFrom_12 lf_X9_21 hC_1 rfl ?_
  refine wp_aload_n (i := 1) dX9_copyFrom_15 rfl rfl ?_
  refine wp_getR (t := 31) dX9_copyFrom_16 lf_X9_21 hC_24 rfl ?_
  refine wp_callVN (vs := [.ref 31]) (rest := []) dX9_copyFrom_19 mV_X2_copyFrom lm_X9_162 hC_8 rfl rfl rfl (Nat.le_of_ble_eq_true rfl) (CallN.mono h (fun σ2 h => ?_))
  refine wp_aload_n (i := 0) dX9_copyFrom_22 rfl rfl ?_
  refine wp_getR (t := 12) dX9_copyFrom_23 lf_X9_28 hC_1 rfl ?_
  refine wp_getR (t := 13) dX9_copyFrom_26 lf_X9_165 hC_12 rfl ?_
  refine wp_aload_n (i := 1) dX9_copyFrom_29 rfl rfl ?_
  refine wp_getR (t := 35) dX9_copyFrom_30 lf_X9_28 hC_24 rfl ?_
  refine wp_getR (t := 36) dX9_copyFrom_33 lf_X9_165 hC_35 rfl ?_
  refine wp_callVN (vs := [.ref 36]) (rest := []) dX9_copyFrom_36 mV_X4_copyFrom lm_X9_168 hC_13 rfl rfl rfl (Nat.le_of_ble_eq_true rfl) (CallN.mono h (fun σ3 h => ?_))
  refine wp_aload_n (i := 0) dX9_copyFrom_39 rfl rfl ?_
  refine wp_getR (t := 16) dX9_copyFrom_40 lf_X9_32 hC_1 rfl ?_
  refine wp_getR (t := 17) dX9_copyFrom_43 lf_X9_165 hC_16 rfl ?_
  refine wp_aload_n (i := 1) dX9_copyFrom_46 rfl rfl ?_
  refine wp_getR (t := 39) dX9_copyFrom_47 lf_X9_32 hC_24 rfl ?_
  refine wp_getR (t := 40) dX9_copyFrom_50 lf_X9_165 hC_39 rfl ?_
  refine wp_callVN (vs := [.ref 40]) (rest := []) dX9_copyFrom_53 mV_X4_copyFrom lm_X9_168 hC_17 rfl rfl rfl (Nat.le_of_ble_eq_true rfl) (CallN.mono h (fun σ4 h => ?_))
  refine wp_aload_n (i := 0) dX9_copyFrom_56 rfl rfl ?_
  refine wp_getR (t := 20) dX9_copyFrom_57 lf_X9_40 hC_1 rfl ?_
  refine wp_aload_n (i := 1) dX9_copyFrom_60 rfl rfl ?_
  refine wp_getR (t := 43) dX9_copyFrom_61 lf_X9_40 hC_24 rfl ?_
  refine wp_callVN (vs := [.ref 43]) (rest := []) dX9_copyFrom_64 mV_X4_copyFrom lm_X9_168 hC_20 rfl rfl rfl (Nat.le_of_ble_eq_true rfl) (CallN.mono h (fun σ5 h => ?_))
  refine wp_aload_n (i := 0) dX9_copyFrom_67 rfl rfl ?_
  refine wp_getR (t := 22) dX9_copyFrom_68 lf_X9_44 hC_1 rfl ?_
  refine wp_aload_n (i := 1) dX9_copyFrom_71 rfl rfl ?_
  refine wp_getR (t := 45) dX9_copyFrom_72 lf_X9_44 hC_24 rfl ?_
  refine wp_callVN (vs := [.ref 45]) (rest := []) dX9_copyFrom_75 mV_X4_copyFrom lm_X9_168 hC_22 rfl rfl rfl (Nat.le_of_ble_eq_true rfl) (CallN.mono h (fun σ6 h => ?_))
  refine wp_aload_n (i := 0) dX9_copyFrom_78 rfl rfl ?_
  refine wp_aload_n (i := 1) dX9_copyFrom_79 rfl rfl ?_
  refine wp_getI dX9_copyFrom_80 lf_X9_47 hC_24 rfl ?_
  refine wp_put dX9_copyFrom_83 lp_X9_47 hC_1 rfl ⟨⟨rfl, rfl⟩, ?_⟩
  refine wp_nm (fun σ7 e8 => ?_)
  replace h := h σ7 e8
  refine wp_aload_n (i := 0) dX9_copyFrom_86 rfl rfl ?_
  refine wp_aload_n (i := 1) dX9_copyFrom_87 rfl rfl ?_
  refine wp_getI dX9_copyFrom_88 lf_X9_51 hC_24 rfl ?_
  refine wp_put dX9_copyFrom_91 lp_X9_51 hC_1 rfl ⟨⟨rfl, rfl⟩, ?_⟩
  refine wp_nm (fun σ9 e10 => ?_)
  replace h := h σ9 e10
  refine wp_aload_n (i := 0) dX9_copyFrom_94 rfl rfl ?_
  refine wp_aload_n (i := 1) dX9_copyFrom_95 rfl rfl ?_
  refine wp_getI dX9_copyFrom_96 lf_X9_54 hC_24 rfl ?_
  refine wp_put dX9_copyFrom_99 lp_X9_54 hC_1 rfl ⟨⟨rfl, rfl⟩, ?_⟩
  refine wp_nm (fun σ11 e12 => ?_)
  replace h := h σ11 e12
  refine wp_aload_n (i := 0) dX9_copyFrom_102 rfl rfl ?_
  refine wp_aload_n (i := 1) dX9_copyFrom_103 rfl rfl ?_
  refine wp_getI dX9_copyFrom_104 lf_X9_57 hC_24 rfl ?_
  refine wp_put dX9_copyFrom_107 lp_X9_57 hC_1 rfl ⟨⟨rfl, rfl⟩, ?_⟩
  refine wp_nm (fun σ13 e14 => ?_)
  replace h := h σ13 e14
  refine wp_aload_n (i := 0) dX9_copyFrom_110 rfl rfl ?_
  refine wp_aload_n (i := 1) dX9_copyFrom_111 rfl rfl ?_
  refine wp_getI dX9_copyFrom_112 lf_X9_60 hC_24 rfl ?_
  refine wp_put dX9_copyFrom_115 lp_X9_60 hC_1 rfl ⟨⟨rfl, rfl⟩, ?_⟩
  refine wp_nm (fun σ15 e16 => ?_)
  replace h := h σ15 e16
  refine wp_aload_n (i := 0) dX9_copyFrom_118 rfl rfl ?_
  refine wp_aload_n (i := 1) dX9_copyFrom_119 rfl rfl ?_
  refine wp_getI dX9_copyFrom_120 lf_X9_63 hC_24 rfl ?_
  refine wp_put dX9_copyFrom_123 lp_X9_63 hC_1 rfl ⟨⟨rfl, rfl⟩, ?_⟩
  refine wp_nm (fun σ17 e18 => ?_)
  replace h := h σ17 e18
  exact wp_return dX9_copyFrom_126 rfl ⟨rfl, h⟩
set_option maxRecDepth 20000 in
set_option maxHeartbeats 2000000 in
theorem vc_SD_restore {E : KE} {d : Nat} {σ : Sg} {K : Int32 → Sg → Prop} (h : (¬ (σ 0 7) = 0 → CallN E shC d mX9_copyFrom [.ref 1, .ref 24] σ (fun σ1 => K (σ1 1 6) σ1)) ∧ ((σ 0 7) = 0 → CallI E shC d mX10_error [.ref 0, .int (nI 2)] σ (fun y3 σ2 => K y3 σ2))) : CallI E shC (d + 1) mX10_restore [.ref 0] σ K := by
  refine wp_enter (Lo := [some (.ref 0)]) mp_X10_restore (Nat.le_of_ble_eq_true rfl) rfl ?_
  refine wp_aload_n (i := 0) dX10_restore_0 rfl rfl ?_
  refine wp_getI dX10_restore_1 lf_X10_51 hC_0 rfl ?_
  refine wp_ifne (tgt := 13) dX10_restore_4 (by decide) ⟨fun q => ?_, fun q => ?_⟩
  · replace h := h.1 q
    refine wp_aload_n (i := 0) dX10_restore_13 rfl rfl ?_
    refine wp_getR (t := 1) dX10_restore_14 lf_X10_10 hC_0 rfl ?_
    refine wp_aload_n (i := 0) dX10_restore_17 rfl rfl ?_
    refine wp_getR (t := 24) dX10_restore_18 lf_X10_16 hC_0 rfl ?_
    refine wp_callVN (vs := [.ref 24]) (rest := []) dX10_restore_21 mV_X9_copyFrom lm_X10_312 hC_1 rfl rfl rfl (Nat.le_of_ble_eq_true rfl) (CallN.mono h (fun σ1 h => ?_))
    refine wp_aload_n (i := 0) dX10_restore_24 rfl rfl ?_
    refine wp_getR (t := 1) dX10_restore_25 lf_X10_10 hC_0 rfl ?_
    refine wp_getI dX10_restore_28 lf_X10_203 hC_1 rfl ?_
    exact wp_ireturn dX10_restore_31 rfl ⟨_, rfl, h⟩
  · replace h := h.2 q
    refine wp_aload_n (i := 0) dX10_restore_7 rfl rfl ?_
    refine wp_iconst (v := nI 2) dX10_restore_8 rfl ?_
    refine wp_callVI (vs := [.int (nI 2)]) (rest := []) dX10_restore_9 mV_X10_error lm_X10_62 hC_0 rfl rfl rfl (Nat.le_of_ble_eq_true rfl) (CallI.mono h (fun y3 σ2 h => ?_))
    exact wp_ireturn dX10_restore_12 rfl ⟨_, rfl, h⟩
set_option maxRecDepth 20000 in
set_option maxHeartbeats 2000000 in
theorem vc_Row_add_22 {E : KE} {d : Nat} {x1 : Int32} {σ : Sg} {K : Sg → Prop} (h : ((nI 24) ≤ (σ 22 1) → K σ) ∧ (¬ (nI 24) ≤ (σ 22 1) → vp_in (σ 22 1) 24 ∧ (∀ σ1, σ1 = k_put σ 23 (upd (σ 23) (σ 22 1).toNatClampNeg x1) → ∀ σ3, σ3 = k_put σ1 22 (upd (σ1 22) 1 ((σ1 22 1) + (nI 1))) → K σ3))) : CallN E shC d mX4_add [.ref 22, .int x1] σ K := by
  refine wp_enter (Lo := [some (.ref 22), some (.int x1)]) mp_X4_add (Nat.le_of_ble_eq_true rfl) rfl ?_
  refine wp_aload_n (i := 0) dX4_add_0 rfl rfl ?_
  refine wp_getI dX4_add_1 lf_X4_13 hC_22 rfl ?_
  refine wp_aload_n (i := 0) dX4_add_4 rfl rfl ?_
  refine wp_getR (t := 23) dX4_add_5 lf_X4_7 hC_22 rfl ?_
  refine wp_alen dX4_add_8 hC_23 ?_
  refine wp_icmpge (tgt := 32) dX4_add_9 (by decide) ⟨fun q => ?_, fun q => ?_⟩
  · replace h := h.1 q
    exact wp_return dX4_add_32 rfl ⟨rfl, h⟩
  · replace h := h.2 q
    refine wp_aload_n (i := 0) dX4_add_12 rfl rfl ?_
    refine wp_getR (t := 23) dX4_add_13 lf_X4_7 hC_22 rfl ?_
    refine wp_aload_n (i := 0) dX4_add_16 rfl rfl ?_
    refine wp_getI dX4_add_17 lf_X4_13 hC_22 rfl ?_
    refine wp_iload_n (i := 1) dX4_add_20 rfl rfl ?_
    refine wp_iast dX4_add_21 hC_23 ⟨h.1, ?_⟩
    refine wp_nm (fun σ1 e2 => ?_)
    replace h := h.2 σ1 e2
    refine wp_aload_n (i := 0) dX4_add_22 rfl rfl ?_
    refine wp_dup dX4_add_23 rfl ?_
    refine wp_getI dX4_add_24 lf_X4_13 hC_22 rfl ?_
    refine wp_iconst (v := nI 1) dX4_add_27 rfl ?_
    refine wp_iadd dX4_add_28 ?_
    refine wp_put dX4_add_29 lp_X4_13 hC_22 rfl ⟨⟨rfl, rfl⟩, ?_⟩
    refine wp_nm (fun σ3 e4 => ?_)
    replace h := h σ3 e4
    exact wp_return dX4_add_32 rfl ⟨rfl, h⟩
set_option maxRecDepth 20000 in
set_option maxHeartbeats 2000000 in
theorem vc_SD_tell {E : KE} {d : Nat} {x1 : Int32} {σ : Sg} {K : Int32 → Sg → Prop} (h : ((σ 22 1) < (nI 24) → CallN E shC d mX4_add [.ref 22, .int x1] σ (fun σ1 => K (σ1 22 1) σ1)) ∧ (¬ (σ 22 1) < (nI 24) → CallI E shC d mX10_error [.ref 0, .int (nI 4)] σ (fun y3 σ2 => K y3 σ2))) : CallI E shC (d + 1) mX10_tell [.ref 0, .int x1] σ K := by
  refine wp_enter (Lo := [some (.ref 0), some (.int x1)]) mp_X10_tell (Nat.le_of_ble_eq_true rfl) rfl ?_
  refine wp_aload_n (i := 0) dX10_tell_0 rfl rfl ?_
  refine wp_getR (t := 1) dX10_tell_1 lf_X10_10 hC_0 rfl ?_
  refine wp_getR (t := 22) dX10_tell_4 lf_X10_315 hC_1 rfl ?_
  refine wp_getI dX10_tell_7 lf_X10_167 hC_22 rfl ?_
  refine wp_bipush (v := nI 24) dX10_tell_10 (by decide) ?_
  refine wp_icmplt (tgt := 21) dX10_tell_12 (by decide) ⟨fun q => ?_, fun q => ?_⟩
  · replace h := h.1 q
    refine wp_aload_n (i := 0) dX10_tell_21 rfl rfl ?_
    refine wp_getR (t := 1) dX10_tell_22 lf_X10_10 hC_0 rfl ?_
    refine wp_getR (t := 22) dX10_tell_25 lf_X10_315 hC_1 rfl ?_
    refine wp_iload_n (i := 1) dX10_tell_28 rfl rfl ?_
    refine wp_callVN (vs := [.int x1]) (rest := []) dX10_tell_29 mV_X4_add lm_X10_170 hC_22 rfl rfl rfl (Nat.le_of_ble_eq_true rfl) (CallN.mono h (fun σ1 h => ?_))
    refine wp_aload_n (i := 0) dX10_tell_32 rfl rfl ?_
    refine wp_getR (t := 1) dX10_tell_33 lf_X10_10 hC_0 rfl ?_
    refine wp_getR (t := 22) dX10_tell_36 lf_X10_315 hC_1 rfl ?_
    refine wp_getI dX10_tell_39 lf_X10_167 hC_22 rfl ?_
    exact wp_ireturn dX10_tell_42 rfl ⟨_, rfl, h⟩
  · replace h := h.2 q
    refine wp_aload_n (i := 0) dX10_tell_15 rfl rfl ?_
    refine wp_iconst (v := nI 4) dX10_tell_16 rfl ?_
    refine wp_callVI (vs := [.int (nI 4)]) (rest := []) dX10_tell_17 mV_X10_error lm_X10_62 hC_0 rfl rfl rfl (Nat.le_of_ble_eq_true rfl) (CallI.mono h (fun y3 σ2 h => ?_))
    exact wp_ireturn dX10_tell_20 rfl ⟨_, rfl, h⟩
set_option maxRecDepth 20000 in
set_option maxHeartbeats 2000000 in
theorem vb_SD_check_24 {E : KE} {d : Nat} {x1 : Int32} {x2 : Int32} {σ : Sg} {K : Int32 → Sg → Prop} (h : (x1 ≤ x2 → K (nI 0) σ) ∧ (¬ x1 ≤ x2 → CallI E shC d mX1_knows [.ref 2, .int x2] σ (fun y2 σ1 => (y2 = 0 → K ((nI 1) + x2) σ1) ∧ (¬ y2 = 0 → vp_in x2 6 ∧ (vp_in x2 24 ∧ (((σ1 5 x2.toNatClampNeg) = (σ1 23 x2.toNatClampNeg) → WP E shC mX10_check (d + 1) 24 [some (.ref 0), some (.int x1), some (.int (x2 + nI 1))] [] σ1 (k_qi K)) ∧ (¬ (σ1 5 x2.toNatClampNeg) = (σ1 23 x2.toNatClampNeg) → K ((nI 1) + x2) σ1))))))) : WP E shC mX10_check (d + 1) 24 [some (.ref 0), some (.int x1), some (.int x2)] [] σ (k_qi K) := by
  refine wp_iload_n (i := 2) dX10_check_24 rfl rfl ?_
  refine wp_iload_n (i := 1) dX10_check_25 rfl rfl ?_
  refine wp_icmpge (tgt := 80) dX10_check_26 (by decide) ⟨fun q => ?_, fun q => ?_⟩
  · replace h := h.1 q
    refine wp_iconst (v := nI 0) dX10_check_80 rfl ?_
    exact wp_ireturn dX10_check_81 rfl ⟨_, rfl, h⟩
  · replace h := h.2 q
    refine wp_aload_n (i := 0) dX10_check_29 rfl rfl ?_
    refine wp_getR (t := 1) dX10_check_30 lf_X10_10 hC_0 rfl ?_
    refine wp_getR (t := 2) dX10_check_33 lf_X10_66 hC_1 rfl ?_
    refine wp_iload_n (i := 2) dX10_check_36 rfl rfl ?_
    refine wp_callVI (vs := [.int x2]) (rest := []) dX10_check_37 mV_X1_knows lm_X10_78 hC_2 rfl rfl rfl (Nat.le_of_ble_eq_true rfl) (CallI.mono h (fun y2 σ1 h => ?_))
    refine wp_ifeq (tgt := 70) dX10_check_40 (by decide) ⟨fun q => ?_, fun q => ?_⟩
    · replace h := h.1 q
      refine wp_iconst (v := nI 1) dX10_check_70 rfl ?_
      refine wp_iload_n (i := 2) dX10_check_71 rfl rfl ?_
      refine wp_iadd dX10_check_72 ?_
      exact wp_ireturn dX10_check_73 rfl ⟨_, rfl, h⟩
    · replace h := h.2 q
      refine wp_aload_n (i := 0) dX10_check_43 rfl rfl ?_
      refine wp_getR (t := 1) dX10_check_44 lf_X10_10 hC_0 rfl ?_
      refine wp_getR (t := 2) dX10_check_47 lf_X10_66 hC_1 rfl ?_
      refine wp_getR (t := 5) dX10_check_50 lf_X10_91 hC_2 rfl ?_
      refine wp_iload_n (i := 2) dX10_check_53 rfl rfl ?_
      refine wp_iald dX10_check_54 hC_5 ⟨h.1, ?_⟩
      replace h := h.2
      refine wp_aload_n (i := 0) dX10_check_55 rfl rfl ?_
      refine wp_getR (t := 1) dX10_check_56 lf_X10_10 hC_0 rfl ?_
      refine wp_getR (t := 22) dX10_check_59 lf_X10_315 hC_1 rfl ?_
      refine wp_getR (t := 23) dX10_check_62 lf_X10_288 hC_22 rfl ?_
      refine wp_iload_n (i := 2) dX10_check_65 rfl rfl ?_
      refine wp_iald dX10_check_66 hC_23 ⟨h.1, ?_⟩
      replace h := h.2
      refine wp_icmpeq (tgt := 74) dX10_check_67 (by decide) ⟨fun q => ?_, fun q => ?_⟩
      · replace h := h.1 q
        refine wp_iinc (i := 2) (v := x2 + nI 1) (Lo' := [some (.ref 0), some (.int x1), some (.int (x2 + nI 1))]) dX10_check_74 rfl (by rfl) (by decide) rfl rfl ?_
        refine wp_goto (tgt := 24) dX10_check_77 (by decide) ?_
        exact wp_mask [true, true, true] h
      · replace h := h.2 q
        refine wp_iconst (v := nI 1) dX10_check_70 rfl ?_
        refine wp_iload_n (i := 2) dX10_check_71 rfl rfl ?_
        refine wp_iadd dX10_check_72 ?_
        exact wp_ireturn dX10_check_73 rfl ⟨_, rfl, h⟩
set_option maxRecDepth 20000 in
set_option maxHeartbeats 2000000 in
theorem vc_SD_check {E : KE} {d : Nat} {σ : Sg} {K : Int32 → Sg → Prop} (h : ∀ σ1, σ1 = k_put σ 22 (upd (σ 22) 1 (nI 0)) → WP E shC mX10_check (d + 1) 24 [some (.ref 0), some (.int (σ 22 1)), some (.int (nI 0))] [] σ1 (k_qi K)) : CallI E shC (d + 1) mX10_check [.ref 0] σ K := by
  refine wp_enter (Lo := [some (.ref 0), none, none]) mp_X10_check (Nat.le_of_ble_eq_true rfl) rfl ?_
  refine wp_aload_n (i := 0) dX10_check_0 rfl rfl ?_
  refine wp_getR (t := 1) dX10_check_1 lf_X10_10 hC_0 rfl ?_
  refine wp_getR (t := 22) dX10_check_4 lf_X10_315 hC_1 rfl ?_
  refine wp_getI dX10_check_7 lf_X10_167 hC_22 rfl ?_
  refine wp_istore_n (i := 1) (Lo' := [some (.ref 0), some (.int (σ 22 1)), none]) dX10_check_10 rfl (by decide) rfl rfl ?_
  refine wp_aload_n (i := 0) dX10_check_11 rfl rfl ?_
  refine wp_getR (t := 1) dX10_check_12 lf_X10_10 hC_0 rfl ?_
  refine wp_getR (t := 22) dX10_check_15 lf_X10_315 hC_1 rfl ?_
  refine wp_iconst (v := nI 0) dX10_check_18 rfl ?_
  refine wp_put dX10_check_19 lp_X10_167 hC_22 rfl ⟨⟨rfl, rfl⟩, ?_⟩
  refine wp_nm (fun σ1 e2 => ?_)
  replace h := h σ1 e2
  refine wp_iconst (v := nI 0) dX10_check_22 rfl ?_
  refine wp_istore_n (i := 2) (Lo' := [some (.ref 0), some (.int (σ 22 1)), some (.int (nI 0))]) dX10_check_23 rfl (by decide) rfl rfl ?_
  exact wp_mask [true, true, true] h
set_option maxRecDepth 20000 in
set_option maxHeartbeats 2000000 in
theorem vc_SD_count {E : KE} {d : Nat} {x1 : Int32} {σ : Sg} {K : Int32 → Sg → Prop} (h : (x1 = nI 0 → K (σ 2 5) σ) ∧ (x1 = nI 1 → K (σ 8 3) σ) ∧ (x1 = nI 2 → K (σ 1 6) σ) ∧ (x1 = nI 3 → K (σ 1 7) σ) ∧ (x1 = nI 4 → K (σ 1 8) σ) ∧ (x1 = nI 5 → K (σ 1 9) σ) ∧ (x1 = nI 6 → K (σ 1 10) σ) ∧ (x1 = nI 7 → CallI E shC d mX2_howManyUnkept [.ref 8, .ref 2] σ (fun y4 σ3 => K y4 σ3)) ∧ (x1 = nI 8 → K (σ 20 1) σ) ∧ (x1 = nI 9 → K (σ 22 1) σ) ∧ (x1 = nI 10 → K (σ 57 1) σ) ∧ (x1 = nI 11 → K (σ 1 11) σ) ∧ (¬ x1 = nI 0 → ¬ x1 = nI 1 → ¬ x1 = nI 2 → ¬ x1 = nI 3 → ¬ x1 = nI 4 → ¬ x1 = nI 5 → ¬ x1 = nI 6 → ¬ x1 = nI 7 → ¬ x1 = nI 8 → ¬ x1 = nI 9 → ¬ x1 = nI 10 → ¬ x1 = nI 11 → CallI E shC d mX10_error [.ref 0, .int (nI 1)] σ (fun y2 σ1 => K y2 σ1))) : CallI E shC (d + 1) mX10_count [.ref 0, .int x1] σ K := by
  refine wp_enter (Lo := [some (.ref 0), some (.int x1)]) mp_X10_count (Nat.le_of_ble_eq_true rfl) rfl ?_
  refine wp_iload_n (i := 1) dX10_count_0 rfl rfl ?_
  rcases Classical.em (x1 = nI 0) with q0 | q0
  · replace h := h.1 q0
    refine wp_tswIn (off := 63) (tgt := 64) dX10_count_1 (by rw [q0]; decide) (by rw [q0]; decide) (by rw [q0]; rfl) (by decide) ?_
    refine wp_aload_n (i := 0) dX10_count_64 rfl rfl ?_
    refine wp_getR (t := 1) dX10_count_65 lf_X10_10 hC_0 rfl ?_
    refine wp_getR (t := 2) dX10_count_68 lf_X10_66 hC_1 rfl ?_
    refine wp_getI dX10_count_71 lf_X10_70 hC_2 rfl ?_
    exact wp_ireturn dX10_count_74 rfl ⟨_, rfl, h⟩
  rcases Classical.em (x1 = nI 1) with q1 | q1
  · replace h := h.2.1 q1
    refine wp_tswIn (off := 74) (tgt := 75) dX10_count_1 (by rw [q1]; decide) (by rw [q1]; decide) (by rw [q1]; rfl) (by decide) ?_
    refine wp_aload_n (i := 0) dX10_count_75 rfl rfl ?_
    refine wp_getR (t := 1) dX10_count_76 lf_X10_10 hC_0 rfl ?_
    refine wp_getR (t := 8) dX10_count_79 lf_X10_141 hC_1 rfl ?_
    refine wp_getI dX10_count_82 lf_X10_145 hC_8 rfl ?_
    exact wp_ireturn dX10_count_85 rfl ⟨_, rfl, h⟩
  rcases Classical.em (x1 = nI 2) with q2 | q2
  · replace h := h.2.2.1 q2
    refine wp_tswIn (off := 85) (tgt := 86) dX10_count_1 (by rw [q2]; decide) (by rw [q2]; decide) (by rw [q2]; rfl) (by decide) ?_
    refine wp_aload_n (i := 0) dX10_count_86 rfl rfl ?_
    refine wp_getR (t := 1) dX10_count_87 lf_X10_10 hC_0 rfl ?_
    refine wp_getI dX10_count_90 lf_X10_203 hC_1 rfl ?_
    exact wp_ireturn dX10_count_93 rfl ⟨_, rfl, h⟩
  rcases Classical.em (x1 = nI 3) with q3 | q3
  · replace h := h.2.2.2.1 q3
    refine wp_tswIn (off := 93) (tgt := 94) dX10_count_1 (by rw [q3]; decide) (by rw [q3]; decide) (by rw [q3]; rfl) (by decide) ?_
    refine wp_aload_n (i := 0) dX10_count_94 rfl rfl ?_
    refine wp_getR (t := 1) dX10_count_95 lf_X10_10 hC_0 rfl ?_
    refine wp_getI dX10_count_98 lf_X10_318 hC_1 rfl ?_
    exact wp_ireturn dX10_count_101 rfl ⟨_, rfl, h⟩
  rcases Classical.em (x1 = nI 4) with q4 | q4
  · replace h := h.2.2.2.2.1 q4
    refine wp_tswIn (off := 101) (tgt := 102) dX10_count_1 (by rw [q4]; decide) (by rw [q4]; decide) (by rw [q4]; rfl) (by decide) ?_
    refine wp_aload_n (i := 0) dX10_count_102 rfl rfl ?_
    refine wp_getR (t := 1) dX10_count_103 lf_X10_10 hC_0 rfl ?_
    refine wp_getI dX10_count_106 lf_X10_321 hC_1 rfl ?_
    exact wp_ireturn dX10_count_109 rfl ⟨_, rfl, h⟩
  rcases Classical.em (x1 = nI 5) with q5 | q5
  · replace h := h.2.2.2.2.2.1 q5
    refine wp_tswIn (off := 109) (tgt := 110) dX10_count_1 (by rw [q5]; decide) (by rw [q5]; decide) (by rw [q5]; rfl) (by decide) ?_
    refine wp_aload_n (i := 0) dX10_count_110 rfl rfl ?_
    refine wp_getR (t := 1) dX10_count_111 lf_X10_10 hC_0 rfl ?_
    refine wp_getI dX10_count_114 lf_X10_324 hC_1 rfl ?_
    exact wp_ireturn dX10_count_117 rfl ⟨_, rfl, h⟩
  rcases Classical.em (x1 = nI 6) with q6 | q6
  · replace h := h.2.2.2.2.2.2.1 q6
    refine wp_tswIn (off := 117) (tgt := 118) dX10_count_1 (by rw [q6]; decide) (by rw [q6]; decide) (by rw [q6]; rfl) (by decide) ?_
    refine wp_aload_n (i := 0) dX10_count_118 rfl rfl ?_
    refine wp_getR (t := 1) dX10_count_119 lf_X10_10 hC_0 rfl ?_
    refine wp_getI dX10_count_122 lf_X10_327 hC_1 rfl ?_
    exact wp_ireturn dX10_count_125 rfl ⟨_, rfl, h⟩
  rcases Classical.em (x1 = nI 7) with q7 | q7
  · replace h := h.2.2.2.2.2.2.2.1 q7
    refine wp_tswIn (off := 125) (tgt := 126) dX10_count_1 (by rw [q7]; decide) (by rw [q7]; decide) (by rw [q7]; rfl) (by decide) ?_
    refine wp_aload_n (i := 0) dX10_count_126 rfl rfl ?_
    refine wp_getR (t := 1) dX10_count_127 lf_X10_10 hC_0 rfl ?_
    refine wp_getR (t := 8) dX10_count_130 lf_X10_141 hC_1 rfl ?_
    refine wp_aload_n (i := 0) dX10_count_133 rfl rfl ?_
    refine wp_getR (t := 1) dX10_count_134 lf_X10_10 hC_0 rfl ?_
    refine wp_getR (t := 2) dX10_count_137 lf_X10_66 hC_1 rfl ?_
    refine wp_callVI (vs := [.ref 2]) (rest := []) dX10_count_140 mV_X2_howManyUnkept lm_X10_250 hC_8 rfl rfl rfl (Nat.le_of_ble_eq_true rfl) (CallI.mono h (fun y4 σ3 h => ?_))
    exact wp_ireturn dX10_count_143 rfl ⟨_, rfl, h⟩
  rcases Classical.em (x1 = nI 8) with q8 | q8
  · replace h := h.2.2.2.2.2.2.2.2.1 q8
    refine wp_tswIn (off := 143) (tgt := 144) dX10_count_1 (by rw [q8]; decide) (by rw [q8]; decide) (by rw [q8]; rfl) (by decide) ?_
    refine wp_aload_n (i := 0) dX10_count_144 rfl rfl ?_
    refine wp_getR (t := 1) dX10_count_145 lf_X10_10 hC_0 rfl ?_
    refine wp_getR (t := 20) dX10_count_148 lf_X10_163 hC_1 rfl ?_
    refine wp_getI dX10_count_151 lf_X10_167 hC_20 rfl ?_
    exact wp_ireturn dX10_count_154 rfl ⟨_, rfl, h⟩
  rcases Classical.em (x1 = nI 9) with q9 | q9
  · replace h := h.2.2.2.2.2.2.2.2.2.1 q9
    refine wp_tswIn (off := 154) (tgt := 155) dX10_count_1 (by rw [q9]; decide) (by rw [q9]; decide) (by rw [q9]; rfl) (by decide) ?_
    refine wp_aload_n (i := 0) dX10_count_155 rfl rfl ?_
    refine wp_getR (t := 1) dX10_count_156 lf_X10_10 hC_0 rfl ?_
    refine wp_getR (t := 22) dX10_count_159 lf_X10_315 hC_1 rfl ?_
    refine wp_getI dX10_count_162 lf_X10_167 hC_22 rfl ?_
    exact wp_ireturn dX10_count_165 rfl ⟨_, rfl, h⟩
  rcases Classical.em (x1 = nI 10) with q10 | q10
  · replace h := h.2.2.2.2.2.2.2.2.2.2.1 q10
    refine wp_tswIn (off := 165) (tgt := 166) dX10_count_1 (by rw [q10]; decide) (by rw [q10]; decide) (by rw [q10]; rfl) (by decide) ?_
    refine wp_aload_n (i := 0) dX10_count_166 rfl rfl ?_
    refine wp_getR (t := 56) dX10_count_167 lf_X10_36 hC_0 rfl ?_
    refine wp_getR (t := 57) dX10_count_170 lf_X10_285 hC_56 rfl ?_
    refine wp_getI dX10_count_173 lf_X10_167 hC_57 rfl ?_
    exact wp_ireturn dX10_count_176 rfl ⟨_, rfl, h⟩
  rcases Classical.em (x1 = nI 11) with q11 | q11
  · replace h := h.2.2.2.2.2.2.2.2.2.2.2.1 q11
    refine wp_tswIn (off := 176) (tgt := 177) dX10_count_1 (by rw [q11]; decide) (by rw [q11]; decide) (by rw [q11]; rfl) (by decide) ?_
    refine wp_aload_n (i := 0) dX10_count_177 rfl rfl ?_
    refine wp_getR (t := 1) dX10_count_178 lf_X10_10 hC_0 rfl ?_
    refine wp_getI dX10_count_181 lf_X10_213 hC_1 rfl ?_
    exact wp_ireturn dX10_count_184 rfl ⟨_, rfl, h⟩
  have nq0 := lv_neT q0 (show ((nI 0) : Int32).toInt = 0 by decide)
  have nq1 := lv_neT q1 (show ((nI 1) : Int32).toInt = 1 by decide)
  have nq2 := lv_neT q2 (show ((nI 2) : Int32).toInt = 2 by decide)
  have nq3 := lv_neT q3 (show ((nI 3) : Int32).toInt = 3 by decide)
  have nq4 := lv_neT q4 (show ((nI 4) : Int32).toInt = 4 by decide)
  have nq5 := lv_neT q5 (show ((nI 5) : Int32).toInt = 5 by decide)
  have nq6 := lv_neT q6 (show ((nI 6) : Int32).toInt = 6 by decide)
  have nq7 := lv_neT q7 (show ((nI 7) : Int32).toInt = 7 by decide)
  have nq8 := lv_neT q8 (show ((nI 8) : Int32).toInt = 8 by decide)
  have nq9 := lv_neT q9 (show ((nI 9) : Int32).toInt = 9 by decide)
  have nq10 := lv_neT q10 (show ((nI 10) : Int32).toInt = 10 by decide)
  have nq11 := lv_neT q11 (show ((nI 11) : Int32).toInt = 11 by decide)
  replace h := h.2.2.2.2.2.2.2.2.2.2.2.2 q0 q1 q2 q3 q4 q5 q6 q7 q8 q9 q10 q11
  refine wp_tswOut (tgt := 185) dX10_count_1 (by omega) (by decide) ?_
  refine wp_aload_n (i := 0) dX10_count_185 rfl rfl ?_
  refine wp_iconst (v := nI 1) dX10_count_186 rfl ?_
  refine wp_callVI (vs := [.int (nI 1)]) (rest := []) dX10_count_187 mV_X10_error lm_X10_62 hC_0 rfl rfl rfl (Nat.le_of_ble_eq_true rfl) (CallI.mono h (fun y2 σ1 h => ?_))
  exact wp_ireturn dX10_count_190 rfl ⟨_, rfl, h⟩
set_option maxRecDepth 20000 in
set_option maxHeartbeats 2000000 in
theorem vc_SD_told {E : KE} {d : Nat} {x1 : Int32} {σ : Sg} {K : Int32 → Sg → Prop} (h : CallI E shC d mX10_isWithin [.int x1, .int (nI 1), .int (nI 6)] σ (fun y2 σ1 => (¬ y2 = 0 → vp_in x1 7 ∧ (K (σ1 63 x1.toNatClampNeg) σ1)) ∧ (y2 = 0 → CallI E shC d mX10_error [.ref 0, .int (nI 1)] σ1 (fun y4 σ3 => K y4 σ3)))) : CallI E shC (d + 1) mX10_told [.ref 0, .int x1] σ K := by
  refine wp_enter (Lo := [some (.ref 0), some (.int x1)]) mp_X10_told (Nat.le_of_ble_eq_true rfl) rfl ?_
  refine wp_iload_n (i := 1) dX10_told_0 rfl rfl ?_
  refine wp_iconst (v := nI 1) dX10_told_1 rfl ?_
  refine wp_bipush (v := nI 6) dX10_told_2 (by decide) ?_
  refine wp_callSI (vs := [.int x1, .int (nI 1), .int (nI 6)]) (rest := []) dX10_told_4 mS_X10_isWithin lm_X10_81 rfl rfl (Nat.le_of_ble_eq_true rfl) (CallI.mono h (fun y2 σ1 h => ?_))
  refine wp_ifne (tgt := 16) dX10_told_7 (by decide) ⟨fun q => ?_, fun q => ?_⟩
  · replace h := h.1 q
    refine wp_aload_n (i := 0) dX10_told_16 rfl rfl ?_
    refine wp_getR (t := 63) dX10_told_17 lf_X10_47 hC_0 rfl ?_
    refine wp_iload_n (i := 1) dX10_told_20 rfl rfl ?_
    refine wp_iald dX10_told_21 hC_63 ⟨h.1, ?_⟩
    replace h := h.2
    exact wp_ireturn dX10_told_22 rfl ⟨_, rfl, h⟩
  · replace h := h.2 q
    refine wp_aload_n (i := 0) dX10_told_10 rfl rfl ?_
    refine wp_iconst (v := nI 1) dX10_told_11 rfl ?_
    refine wp_callVI (vs := [.int (nI 1)]) (rest := []) dX10_told_12 mV_X10_error lm_X10_62 hC_0 rfl rfl rfl (Nat.le_of_ble_eq_true rfl) (CallI.mono h (fun y4 σ3 h => ?_))
    exact wp_ireturn dX10_told_15 rfl ⟨_, rfl, h⟩

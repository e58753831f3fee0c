set_option maxRecDepth 20000 in
set_option maxHeartbeats 2000000 in
theorem vc_Md_lay {E : KE} {d : Nat} {x1 : Int32} {x2 : Int32} {x3 : Int32} {σ : Sg} {K : Sg → Prop} (h : vp_in (((nI 10) + ((nI 32) * x1)) + x2) 552 ∧ (∀ σ1, σ1 = k_put σ 1 (upd (σ 1) (((nI 10) + ((nI 32) * x1)) + x2).toNatClampNeg x3) → K σ1)) : CallN E shR d mX11_lay [.ref 0, .int x1, .int x2, .int x3] σ K := by
  refine wp_enter (Lo := [some (.ref 0), some (.int x1), some (.int x2), some (.int x3)]) mp_X11_lay (Nat.le_of_ble_eq_true rfl) rfl ?_
  refine wp_aload_n (i := 0) dX11_lay_0 rfl rfl ?_
  refine wp_getR (t := 1) dX11_lay_1 lf_X11_9 hR_0 rfl ?_
  refine wp_bipush (v := nI 10) dX11_lay_4 (by decide) ?_
  refine wp_bipush (v := nI 32) dX11_lay_6 (by decide) ?_
  refine wp_iload_n (i := 1) dX11_lay_8 rfl rfl ?_
  refine wp_imul dX11_lay_9 ?_
  refine wp_iadd dX11_lay_10 ?_
  refine wp_iload_n (i := 2) dX11_lay_11 rfl rfl ?_
  refine wp_iadd dX11_lay_12 ?_
  refine wp_iload_n (i := 3) dX11_lay_13 rfl rfl ?_
  refine wp_iast dX11_lay_14 hR_1 ⟨h.1, ?_⟩
  refine wp_nm (fun σ1 e2 => ?_)
  replace h := h.2 σ1 e2
  exact wp_return dX11_lay_15 rfl ⟨rfl, h⟩
set_option maxRecDepth 20000 in
set_option maxHeartbeats 2000000 in
theorem vc_Md_error {E : KE} {d : Nat} {x1 : Int32} {σ : Sg} {K : Int32 → Sg → Prop} (h : vp_in ((-1000000000 : Int32) - x1) 7 ∧ (vp_in ((-1000000000 : Int32) - x1) 7 ∧ (∀ σ1, σ1 = k_put σ 4 (upd (σ 4) ((-1000000000 : Int32) - x1).toNatClampNeg ((σ 4 ((-1000000000 : Int32) - x1).toNatClampNeg) + (nI 1))) → K x1 σ1))) : CallI E shR d mX11_error [.ref 0, .int x1] σ K := by
  refine wp_enter (Lo := [some (.ref 0), some (.int x1)]) mp_X11_error (Nat.le_of_ble_eq_true rfl) rfl ?_
  refine wp_aload_n (i := 0) dX11_error_0 rfl rfl ?_
  refine wp_getR (t := 4) dX11_error_1 lf_X11_19 hR_0 rfl ?_
  refine wp_ldc lc_X11_52 dX11_error_4 ?_
  refine wp_iload_n (i := 1) dX11_error_6 rfl rfl ?_
  refine wp_isub dX11_error_7 ?_
  refine wp_dup2 dX11_error_8 rfl rfl ?_
  refine wp_iald dX11_error_9 hR_4 ⟨h.1, ?_⟩
  replace h := h.2
  refine wp_iconst (v := nI 1) dX11_error_10 rfl ?_
  refine wp_iadd dX11_error_11 ?_
  refine wp_iast dX11_error_12 hR_4 ⟨h.1, ?_⟩
  refine wp_nm (fun σ1 e2 => ?_)
  replace h := h.2 σ1 e2
  refine wp_iload_n (i := 1) dX11_error_13 rfl rfl ?_
  exact wp_ireturn dX11_error_14 rfl ⟨_, rfl, h⟩
set_option maxRecDepth 20000 in
set_option maxHeartbeats 2000000 in
theorem vb_Md_person_81 {E : KE} {d : Nat} {x2 : Int32} {x3 : Int32} {σ : Sg} {K : Int32 → Sg → Prop} (h : ((nI 28) ≤ x3 → K x2 σ) ∧ (¬ (nI 28) ≤ x3 → CallN E shR d mX11_lay [.ref 0, .int x2, .int ((nI 4) + x3), .int (nI 1)] σ (fun σ1 => WP E shR mX11_person (d + 1) 81 [some (.ref 0), none, some (.int x2), some (.int (x3 + nI 1))] [] σ1 (k_qi K)))) : WP E shR mX11_person (d + 1) 81 [some (.ref 0), none, some (.int x2), some (.int x3)] [] σ (k_qi K) := by
  refine wp_iload_n (i := 3) dX11_person_81 rfl rfl ?_
  refine wp_bipush (v := nI 28) dX11_person_82 (by decide) ?_
  refine wp_icmpge (tgt := 102) dX11_person_84 (by decide) ⟨fun q => ?_, fun q => ?_⟩
  · replace h := h.1 q
    refine wp_iload_n (i := 2) dX11_person_102 rfl rfl ?_
    exact wp_ireturn dX11_person_103 rfl ⟨_, rfl, h⟩
  · replace h := h.2 q
    refine wp_aload_n (i := 0) dX11_person_87 rfl rfl ?_
    refine wp_iload_n (i := 2) dX11_person_88 rfl rfl ?_
    refine wp_iconst (v := nI 4) dX11_person_89 rfl ?_
    refine wp_iload_n (i := 3) dX11_person_90 rfl rfl ?_
    refine wp_iadd dX11_person_91 ?_
    refine wp_iconst (v := nI 1) dX11_person_92 rfl ?_
    refine wp_callVN (vs := [.int x2, .int ((nI 4) + x3), .int (nI 1)]) (rest := []) dX11_person_93 mV_X11_lay lm_X11_91 hR_0 rfl rfl rfl (Nat.le_of_ble_eq_true rfl) (CallN.mono h (fun σ1 h => ?_))
    refine wp_iinc (i := 3) (v := x3 + nI 1) (Lo' := [some (.ref 0), none, some (.int x2), some (.int (x3 + nI 1))]) dX11_person_96 rfl (by rfl) (by decide) rfl rfl ?_
    refine wp_goto (tgt := 81) dX11_person_99 (by decide) ?_
    exact wp_mask [true, false, true, true] h
set_option maxRecDepth 20000 in
set_option maxHeartbeats 2000000 in
theorem vc_Md_person {E : KE} {d : Nat} {x1 : Int32} {σ : Sg} {K : Int32 → Sg → Prop} (h : CallI E shR d mX11_isKm [.int x1] σ (fun y2 σ1 => (¬ y2 = 0 → vp_in (nI 2) 552 ∧ ((¬ (σ1 1 (nI 2).toNatClampNeg) = (nI 6) → vp_in (nI 2) 552 ∧ (vp_in (nI 2) 552 ∧ (∀ σ3, σ3 = k_put σ1 1 (upd (σ1 1) (nI 2).toNatClampNeg ((σ1 1 (nI 2).toNatClampNeg) + (nI 1))) → CallN E shR d mX11_lay [.ref 0, .int (σ1 1 (nI 2).toNatClampNeg), .int (nI 0), .int (x1 / (nI 10))] σ3 (fun σ5 => CallN E shR d mX11_lay [.ref 0, .int (σ1 1 (nI 2).toNatClampNeg), .int (nI 1), .int (x1 - x1 / (nI 10) * (nI 10))] σ5 (fun σ6 => CallN E shR d mX11_lay [.ref 0, .int (σ1 1 (nI 2).toNatClampNeg), .int (nI 2), .int (nI 0)] σ6 (fun σ7 => CallN E shR d mX11_lay [.ref 0, .int (σ1 1 (nI 2).toNatClampNeg), .int (nI 3), .int (nI 100)] σ7 (fun σ8 => WP E shR mX11_person (d + 1) 81 [some (.ref 0), none, some (.int (σ1 1 (nI 2).toNatClampNeg)), some (.int (nI 0))] [] σ8 (k_qi K)))))))) ∧ ((σ1 1 (nI 2).toNatClampNeg) = (nI 6) → CallI E shR d mX11_error [.ref 0, .int (-1000000004 : Int32)] σ1 (fun y10 σ9 => K y10 σ9)))) ∧ (y2 = 0 → CallI E shR d mX11_error [.ref 0, .int (-1000000001 : Int32)] σ1 (fun y12 σ11 => K y12 σ11)))) : CallI E shR (d + 1) mX11_person [.ref 0, .int x1] σ K := by
  refine wp_enter (Lo := [some (.ref 0), some (.int x1), none, none]) mp_X11_person (Nat.le_of_ble_eq_true rfl) rfl ?_
  refine wp_iload_n (i := 1) dX11_person_0 rfl rfl ?_
  refine wp_callSI (vs := [.int x1]) (rest := []) dX11_person_1 mS_X11_isKm lm_X11_82 rfl rfl (Nat.le_of_ble_eq_true rfl) (CallI.mono h (fun y2 σ1 h => ?_))
  refine wp_ifne (tgt := 14) dX11_person_4 (by decide) ⟨fun q => ?_, fun q => ?_⟩
  · replace h := h.1 q
    refine wp_aload_n (i := 0) dX11_person_14 rfl rfl ?_
    refine wp_getR (t := 1) dX11_person_15 lf_X11_9 hR_0 rfl ?_
    refine wp_iconst (v := nI 2) dX11_person_18 rfl ?_
    refine wp_iald dX11_person_19 hR_1 ⟨h.1, ?_⟩
    replace h := h.2
    refine wp_istore_n (i := 2) (Lo' := [some (.ref 0), some (.int x1), some (.int (σ1 1 (nI 2).toNatClampNeg)), none]) dX11_person_20 rfl (by decide) rfl rfl ?_
    refine wp_iload_n (i := 2) dX11_person_21 rfl rfl ?_
    refine wp_bipush (v := nI 6) dX11_person_22 (by decide) ?_
    refine wp_icmpne (tgt := 34) dX11_person_24 (by decide) ⟨fun q => ?_, fun q => ?_⟩
    · replace h := h.1 q
      refine wp_aload_n (i := 0) dX11_person_34 rfl rfl ?_
      refine wp_getR (t := 1) dX11_person_35 lf_X11_9 hR_0 rfl ?_
      refine wp_iconst (v := nI 2) dX11_person_38 rfl ?_
      refine wp_dup2 dX11_person_39 rfl rfl ?_
      refine wp_iald dX11_person_40 hR_1 ⟨h.1, ?_⟩
      replace h := h.2
      refine wp_iconst (v := nI 1) dX11_person_41 rfl ?_
      refine wp_iadd dX11_person_42 ?_
      refine wp_iast dX11_person_43 hR_1 ⟨h.1, ?_⟩
      refine wp_nm (fun σ3 e4 => ?_)
      replace h := h.2 σ3 e4
      refine wp_aload_n (i := 0) dX11_person_44 rfl rfl ?_
      refine wp_iload_n (i := 2) dX11_person_45 rfl rfl ?_
      refine wp_iconst (v := nI 0) dX11_person_46 rfl ?_
      refine wp_iload_n (i := 1) dX11_person_47 rfl rfl ?_
      refine wp_bipush (v := nI 10) dX11_person_48 (by decide) ?_
      refine wp_idiv dX11_person_50 ⟨by decide, ?_⟩
      refine wp_callVN (vs := [.int (σ1 1 (nI 2).toNatClampNeg), .int (nI 0), .int (x1 / (nI 10))]) (rest := []) dX11_person_51 mV_X11_lay lm_X11_91 hR_0 rfl rfl rfl (Nat.le_of_ble_eq_true rfl) (CallN.mono h (fun σ5 h => ?_))
      refine wp_aload_n (i := 0) dX11_person_54 rfl rfl ?_
      refine wp_iload_n (i := 2) dX11_person_55 rfl rfl ?_
      refine wp_iconst (v := nI 1) dX11_person_56 rfl ?_
      refine wp_iload_n (i := 1) dX11_person_57 rfl rfl ?_
      refine wp_bipush (v := nI 10) dX11_person_58 (by decide) ?_
      refine wp_irem dX11_person_60 ⟨by decide, ?_⟩
      refine wp_callVN (vs := [.int (σ1 1 (nI 2).toNatClampNeg), .int (nI 1), .int (x1 - x1 / (nI 10) * (nI 10))]) (rest := []) dX11_person_61 mV_X11_lay lm_X11_91 hR_0 rfl rfl rfl (Nat.le_of_ble_eq_true rfl) (CallN.mono h (fun σ6 h => ?_))
      refine wp_aload_n (i := 0) dX11_person_64 rfl rfl ?_
      refine wp_iload_n (i := 2) dX11_person_65 rfl rfl ?_
      refine wp_iconst (v := nI 2) dX11_person_66 rfl ?_
      refine wp_iconst (v := nI 0) dX11_person_67 rfl ?_
      refine wp_callVN (vs := [.int (σ1 1 (nI 2).toNatClampNeg), .int (nI 2), .int (nI 0)]) (rest := []) dX11_person_68 mV_X11_lay lm_X11_91 hR_0 rfl rfl rfl (Nat.le_of_ble_eq_true rfl) (CallN.mono h (fun σ7 h => ?_))
      refine wp_aload_n (i := 0) dX11_person_71 rfl rfl ?_
      refine wp_iload_n (i := 2) dX11_person_72 rfl rfl ?_
      refine wp_iconst (v := nI 3) dX11_person_73 rfl ?_
      refine wp_bipush (v := nI 100) dX11_person_74 (by decide) ?_
      refine wp_callVN (vs := [.int (σ1 1 (nI 2).toNatClampNeg), .int (nI 3), .int (nI 100)]) (rest := []) dX11_person_76 mV_X11_lay lm_X11_91 hR_0 rfl rfl rfl (Nat.le_of_ble_eq_true rfl) (CallN.mono h (fun σ8 h => ?_))
      refine wp_iconst (v := nI 0) dX11_person_79 rfl ?_
      refine wp_istore_n (i := 3) (Lo' := [some (.ref 0), some (.int x1), some (.int (σ1 1 (nI 2).toNatClampNeg)), some (.int (nI 0))]) dX11_person_80 rfl (by decide) rfl rfl ?_
      exact wp_mask [true, false, true, true] h
    · replace h := h.2 q
      refine wp_aload_n (i := 0) dX11_person_27 rfl rfl ?_
      refine wp_ldc lc_X11_90 dX11_person_28 ?_
      refine wp_callVI (vs := [.int (-1000000004 : Int32)]) (rest := []) dX11_person_30 mV_X11_error lm_X11_86 hR_0 rfl rfl rfl (Nat.le_of_ble_eq_true rfl) (CallI.mono h (fun y10 σ9 h => ?_))
      exact wp_ireturn dX11_person_33 rfl ⟨_, rfl, h⟩
  · replace h := h.2 q
    refine wp_aload_n (i := 0) dX11_person_7 rfl rfl ?_
    refine wp_ldc lc_X11_85 dX11_person_8 ?_
    refine wp_callVI (vs := [.int (-1000000001 : Int32)]) (rest := []) dX11_person_10 mV_X11_error lm_X11_86 hR_0 rfl rfl rfl (Nat.le_of_ble_eq_true rfl) (CallI.mono h (fun y12 σ11 h => ?_))
    exact wp_ireturn dX11_person_13 rfl ⟨_, rfl, h⟩
set_option maxRecDepth 20000 in
set_option maxHeartbeats 2000000 in
theorem vc_Md_isPerson {E : KE} {d : Nat} {x1 : Int32} {σ : Sg} {K : Int32 → Sg → Prop} (h : vp_in (nI 2) 552 ∧ (CallI E shR d mX11_in [.int x1, .int (nI 0), .int ((σ 1 (nI 2).toNatClampNeg) - (nI 1))] σ (fun y2 σ1 => (y2 = 0 ∨ y2 = 1) ∧ K y2 σ1))) : CallI E shR (d + 1) mX11_isPerson [.ref 0, .int x1] σ K := by
  refine wp_enter (Lo := [some (.ref 0), some (.int x1)]) mp_X11_isPerson (Nat.le_of_ble_eq_true rfl) rfl ?_
  refine wp_iload_n (i := 1) dX11_isPerson_0 rfl rfl ?_
  refine wp_iconst (v := nI 0) dX11_isPerson_1 rfl ?_
  refine wp_aload_n (i := 0) dX11_isPerson_2 rfl rfl ?_
  refine wp_getR (t := 1) dX11_isPerson_3 lf_X11_9 hR_0 rfl ?_
  refine wp_iconst (v := nI 2) dX11_isPerson_6 rfl ?_
  refine wp_iald dX11_isPerson_7 hR_1 ⟨h.1, ?_⟩
  replace h := h.2
  refine wp_iconst (v := nI 1) dX11_isPerson_8 rfl ?_
  refine wp_isub dX11_isPerson_9 ?_
  refine wp_callSI (vs := [.int x1, .int (nI 0), .int ((σ 1 (nI 2).toNatClampNeg) - (nI 1))]) (rest := []) dX11_isPerson_10 mS_X11_in lm_X11_53 rfl rfl (Nat.le_of_ble_eq_true rfl) (CallI.mono h (fun y2 σ1 h => ?_))
  exact wp_zreturn dX11_isPerson_13 rfl ⟨k_bool h.1, _, rfl, h.2⟩
set_option maxRecDepth 20000 in
set_option maxHeartbeats 2000000 in
theorem vc_Md_of {E : KE} {d : Nat} {x1 : Int32} {x2 : Int32} {σ : Sg} {K : Int32 → Sg → Prop} (h : vp_in (((nI 10) + ((nI 32) * x1)) + x2) 552 ∧ (K (σ 1 (((nI 10) + ((nI 32) * x1)) + x2).toNatClampNeg) σ)) : CallI E shR d mX11_of [.ref 0, .int x1, .int x2] σ K := by
  refine wp_enter (Lo := [some (.ref 0), some (.int x1), some (.int x2)]) mp_X11_of (Nat.le_of_ble_eq_true rfl) rfl ?_
  refine wp_aload_n (i := 0) dX11_of_0 rfl rfl ?_
  refine wp_getR (t := 1) dX11_of_1 lf_X11_9 hR_0 rfl ?_
  refine wp_bipush (v := nI 10) dX11_of_4 (by decide) ?_
  refine wp_bipush (v := nI 32) dX11_of_6 (by decide) ?_
  refine wp_iload_n (i := 1) dX11_of_8 rfl rfl ?_
  refine wp_imul dX11_of_9 ?_
  refine wp_iadd dX11_of_10 ?_
  refine wp_iload_n (i := 2) dX11_of_11 rfl rfl ?_
  refine wp_iadd dX11_of_12 ?_
  refine wp_iald dX11_of_13 hR_1 ⟨h.1, ?_⟩
  replace h := h.2
  exact wp_ireturn dX11_of_14 rfl ⟨_, rfl, h⟩
set_option maxRecDepth 20000 in
set_option maxHeartbeats 2000000 in
theorem vb_Md_livesOf_38 {E : KE} {d : Nat} {x1 : Int32} {x3 : Int32} {x4 : Int32} {x5 : Int32} {z0 : Int32} {σ : Sg} {K : Int32 → Sg → Prop} (h : (x3 ≤ (nI 1) → CallI E shR d mX11_of [.ref 0, .int x1, .int (nI 0)] σ (fun y2 σ1 => (y2 = nI 1 → K z0 σ1) ∧ (y2 = nI 2 → K x3 σ1) ∧ (y2 = nI 3 → K ((x3 + (nI 1)) / (nI 2)) σ1) ∧ (y2 = nI 4 → (¬ x5 = ((x4 + (nI 1)) - (x4 + (nI 1)) / (nI 7) * (nI 7)) → K z0 σ1) ∧ (x5 = ((x4 + (nI 1)) - (x4 + (nI 1)) / (nI 7) * (nI 7)) → K ((nI 2) * z0) σ1)) ∧ (y2 = nI 5 → (x5 ≤ (nI 4) → K x3 σ1) ∧ (¬ x5 ≤ (nI 4) → K (x3 + x4) σ1)) ∧ (y2 = nI 6 → K (nI 1) σ1) ∧ (¬ y2 = nI 1 → ¬ y2 = nI 2 → ¬ y2 = nI 3 → ¬ y2 = nI 4 → ¬ y2 = nI 5 → ¬ y2 = nI 6 → K x3 σ1))) ∧ (¬ x3 ≤ (nI 1) → CallI E shR d mX11_of [.ref 0, .int x1, .int (nI 0)] σ (fun y4 σ3 => (y4 = nI 1 → K z0 σ3) ∧ (y4 = nI 2 → K (x3 + (nI 1)) σ3) ∧ (y4 = nI 3 → K ((x3 + (nI 1)) / (nI 2)) σ3) ∧ (y4 = nI 4 → (¬ x5 = ((x4 + (nI 1)) - (x4 + (nI 1)) / (nI 7) * (nI 7)) → K z0 σ3) ∧ (x5 = ((x4 + (nI 1)) - (x4 + (nI 1)) / (nI 7) * (nI 7)) → K ((nI 2) * z0) σ3)) ∧ (y4 = nI 5 → (x5 ≤ (nI 4) → K (x3 + (nI 1)) σ3) ∧ (¬ x5 ≤ (nI 4) → K ((x3 + (nI 1)) + x4) σ3)) ∧ (y4 = nI 6 → K (nI 1) σ3) ∧ (¬ y4 = nI 1 → ¬ y4 = nI 2 → ¬ y4 = nI 3 → ¬ y4 = nI 4 → ¬ y4 = nI 5 → ¬ y4 = nI 6 → K x3 σ3)))) : WP E shR mX11_livesOf (d + 1) 38 [some (.ref 0), some (.int x1), none, some (.int x3), some (.int x4), some (.int x5), none, none] [.int z0] σ (k_qi K) := by
  refine wp_istore (i := 6) (Lo' := [some (.ref 0), some (.int x1), none, some (.int x3), some (.int x4), some (.int x5), some (.int z0), none]) dX11_livesOf_38 (by decide) rfl rfl ?_
  refine wp_iload_n (i := 3) dX11_livesOf_40 rfl rfl ?_
  refine wp_iconst (v := nI 1) dX11_livesOf_41 rfl ?_
  refine wp_icmple (tgt := 51) dX11_livesOf_42 (by decide) ⟨fun q => ?_, fun q => ?_⟩
  · replace h := h.1 q
    refine wp_iload_n (i := 3) dX11_livesOf_51 rfl rfl ?_
    refine wp_istore (i := 7) (Lo' := [some (.ref 0), some (.int x1), none, some (.int x3), some (.int x4), some (.int x5), some (.int z0), some (.int x3)]) dX11_livesOf_52 (by decide) rfl rfl ?_
    refine wp_aload_n (i := 0) dX11_livesOf_54 rfl rfl ?_
    refine wp_iload_n (i := 1) dX11_livesOf_55 rfl rfl ?_
    refine wp_iconst (v := nI 0) dX11_livesOf_56 rfl ?_
    refine wp_callVI (vs := [.int x1, .int (nI 0)]) (rest := []) dX11_livesOf_57 mV_X11_of lm_X11_65 hR_0 rfl rfl rfl (Nat.le_of_ble_eq_true rfl) (CallI.mono h (fun y2 σ1 h => ?_))
    rcases Classical.em (y2 = nI 1) with q0 | q0
    · replace h := h.1 q0
      refine wp_tswIn (off := 40) (tgt := 100) dX11_livesOf_60 (by rw [q0]; decide) (by rw [q0]; decide) (by rw [q0]; rfl) (by decide) ?_
      refine wp_iload (i := 6) dX11_livesOf_100 rfl ?_
      exact wp_ireturn dX11_livesOf_102 rfl ⟨_, rfl, h⟩
    rcases Classical.em (y2 = nI 2) with q1 | q1
    · replace h := h.2.1 q1
      refine wp_tswIn (off := 43) (tgt := 103) dX11_livesOf_60 (by rw [q1]; decide) (by rw [q1]; decide) (by rw [q1]; rfl) (by decide) ?_
      refine wp_iload (i := 7) dX11_livesOf_103 rfl ?_
      exact wp_ireturn dX11_livesOf_105 rfl ⟨_, rfl, h⟩
    rcases Classical.em (y2 = nI 3) with q2 | q2
    · replace h := h.2.2.1 q2
      refine wp_tswIn (off := 46) (tgt := 106) dX11_livesOf_60 (by rw [q2]; decide) (by rw [q2]; decide) (by rw [q2]; rfl) (by decide) ?_
      refine wp_iload_n (i := 3) dX11_livesOf_106 rfl rfl ?_
      refine wp_iconst (v := nI 1) dX11_livesOf_107 rfl ?_
      refine wp_iadd dX11_livesOf_108 ?_
      refine wp_iconst (v := nI 2) dX11_livesOf_109 rfl ?_
      refine wp_idiv dX11_livesOf_110 ⟨by decide, ?_⟩
      exact wp_ireturn dX11_livesOf_111 rfl ⟨_, rfl, h⟩
    rcases Classical.em (y2 = nI 4) with q3 | q3
    · replace h := h.2.2.2.1 q3
      refine wp_tswIn (off := 52) (tgt := 112) dX11_livesOf_60 (by rw [q3]; decide) (by rw [q3]; decide) (by rw [q3]; rfl) (by decide) ?_
      refine wp_iload (i := 5) dX11_livesOf_112 rfl ?_
      refine wp_iload (i := 4) dX11_livesOf_114 rfl ?_
      refine wp_iconst (v := nI 1) dX11_livesOf_116 rfl ?_
      refine wp_iadd dX11_livesOf_117 ?_
      refine wp_bipush (v := nI 7) dX11_livesOf_118 (by decide) ?_
      refine wp_irem dX11_livesOf_120 ⟨by decide, ?_⟩
      refine wp_icmpne (tgt := 131) dX11_livesOf_121 (by decide) ⟨fun q => ?_, fun q => ?_⟩
      · replace h := h.1 q
        refine wp_iload (i := 6) dX11_livesOf_131 rfl ?_
        exact wp_ireturn dX11_livesOf_133 rfl ⟨_, rfl, h⟩
      · replace h := h.2 q
        refine wp_iconst (v := nI 2) dX11_livesOf_124 rfl ?_
        refine wp_iload (i := 6) dX11_livesOf_125 rfl ?_
        refine wp_imul dX11_livesOf_127 ?_
        refine wp_goto (tgt := 133) dX11_livesOf_128 (by decide) ?_
        exact wp_ireturn dX11_livesOf_133 rfl ⟨_, rfl, h⟩
    rcases Classical.em (y2 = nI 5) with q4 | q4
    · replace h := h.2.2.2.2.1 q4
      refine wp_tswIn (off := 74) (tgt := 134) dX11_livesOf_60 (by rw [q4]; decide) (by rw [q4]; decide) (by rw [q4]; rfl) (by decide) ?_
      refine wp_iload (i := 5) dX11_livesOf_134 rfl ?_
      refine wp_iconst (v := nI 4) dX11_livesOf_136 rfl ?_
      refine wp_icmple (tgt := 148) dX11_livesOf_137 (by decide) ⟨fun q => ?_, fun q => ?_⟩
      · replace h := h.1 q
        refine wp_iload (i := 7) dX11_livesOf_148 rfl ?_
        exact wp_ireturn dX11_livesOf_150 rfl ⟨_, rfl, h⟩
      · replace h := h.2 q
        refine wp_iload (i := 7) dX11_livesOf_140 rfl ?_
        refine wp_iload (i := 4) dX11_livesOf_142 rfl ?_
        refine wp_iadd dX11_livesOf_144 ?_
        refine wp_goto (tgt := 150) dX11_livesOf_145 (by decide) ?_
        exact wp_ireturn dX11_livesOf_150 rfl ⟨_, rfl, h⟩
    rcases Classical.em (y2 = nI 6) with q5 | q5
    · replace h := h.2.2.2.2.2.1 q5
      refine wp_tswIn (off := 91) (tgt := 151) dX11_livesOf_60 (by rw [q5]; decide) (by rw [q5]; decide) (by rw [q5]; rfl) (by decide) ?_
      refine wp_iconst (v := nI 1) dX11_livesOf_151 rfl ?_
      exact wp_ireturn dX11_livesOf_152 rfl ⟨_, rfl, h⟩
    have nq0 := lv_neT q0 (show ((nI 1) : Int32).toInt = 1 by decide)
    have nq1 := lv_neT q1 (show ((nI 2) : Int32).toInt = 2 by decide)
    have nq2 := lv_neT q2 (show ((nI 3) : Int32).toInt = 3 by decide)
    have nq3 := lv_neT q3 (show ((nI 4) : Int32).toInt = 4 by decide)
    have nq4 := lv_neT q4 (show ((nI 5) : Int32).toInt = 5 by decide)
    have nq5 := lv_neT q5 (show ((nI 6) : Int32).toInt = 6 by decide)
    replace h := h.2.2.2.2.2.2 q0 q1 q2 q3 q4 q5
    refine wp_tswOut (tgt := 153) dX11_livesOf_60 (by omega) (by decide) ?_
    refine wp_iload_n (i := 3) dX11_livesOf_153 rfl rfl ?_
    exact wp_ireturn dX11_livesOf_154 rfl ⟨_, rfl, h⟩
  · replace h := h.2 q
    refine wp_iload_n (i := 3) dX11_livesOf_45 rfl rfl ?_
    refine wp_iconst (v := nI 1) dX11_livesOf_46 rfl ?_
    refine wp_iadd dX11_livesOf_47 ?_
    refine wp_goto (tgt := 52) dX11_livesOf_48 (by decide) ?_
    refine wp_istore (i := 7) (Lo' := [some (.ref 0), some (.int x1), none, some (.int x3), some (.int x4), some (.int x5), some (.int z0), some (.int (x3 + (nI 1)))]) dX11_livesOf_52 (by decide) rfl rfl ?_
    refine wp_aload_n (i := 0) dX11_livesOf_54 rfl rfl ?_
    refine wp_iload_n (i := 1) dX11_livesOf_55 rfl rfl ?_
    refine wp_iconst (v := nI 0) dX11_livesOf_56 rfl ?_
    refine wp_callVI (vs := [.int x1, .int (nI 0)]) (rest := []) dX11_livesOf_57 mV_X11_of lm_X11_65 hR_0 rfl rfl rfl (Nat.le_of_ble_eq_true rfl) (CallI.mono h (fun y4 σ3 h => ?_))
    rcases Classical.em (y4 = nI 1) with q0 | q0
    · replace h := h.1 q0
      refine wp_tswIn (off := 40) (tgt := 100) dX11_livesOf_60 (by rw [q0]; decide) (by rw [q0]; decide) (by rw [q0]; rfl) (by decide) ?_
      refine wp_iload (i := 6) dX11_livesOf_100 rfl ?_
      exact wp_ireturn dX11_livesOf_102 rfl ⟨_, rfl, h⟩
    rcases Classical.em (y4 = nI 2) with q1 | q1
    · replace h := h.2.1 q1
      refine wp_tswIn (off := 43) (tgt := 103) dX11_livesOf_60 (by rw [q1]; decide) (by rw [q1]; decide) (by rw [q1]; rfl) (by decide) ?_
      refine wp_iload (i := 7) dX11_livesOf_103 rfl ?_
      exact wp_ireturn dX11_livesOf_105 rfl ⟨_, rfl, h⟩
    rcases Classical.em (y4 = nI 3) with q2 | q2
    · replace h := h.2.2.1 q2
      refine wp_tswIn (off := 46) (tgt := 106) dX11_livesOf_60 (by rw [q2]; decide) (by rw [q2]; decide) (by rw [q2]; rfl) (by decide) ?_
      refine wp_iload_n (i := 3) dX11_livesOf_106 rfl rfl ?_
      refine wp_iconst (v := nI 1) dX11_livesOf_107 rfl ?_
      refine wp_iadd dX11_livesOf_108 ?_
      refine wp_iconst (v := nI 2) dX11_livesOf_109 rfl ?_
      refine wp_idiv dX11_livesOf_110 ⟨by decide, ?_⟩
      exact wp_ireturn dX11_livesOf_111 rfl ⟨_, rfl, h⟩
    rcases Classical.em (y4 = nI 4) with q3 | q3
    · replace h := h.2.2.2.1 q3
      refine wp_tswIn (off := 52) (tgt := 112) dX11_livesOf_60 (by rw [q3]; decide) (by rw [q3]; decide) (by rw [q3]; rfl) (by decide) ?_
      refine wp_iload (i := 5) dX11_livesOf_112 rfl ?_
      refine wp_iload (i := 4) dX11_livesOf_114 rfl ?_
      refine wp_iconst (v := nI 1) dX11_livesOf_116 rfl ?_
      refine wp_iadd dX11_livesOf_117 ?_
      refine wp_bipush (v := nI 7) dX11_livesOf_118 (by decide) ?_
      refine wp_irem dX11_livesOf_120 ⟨by decide, ?_⟩
      refine wp_icmpne (tgt := 131) dX11_livesOf_121 (by decide) ⟨fun q => ?_, fun q => ?_⟩
      · replace h := h.1 q
        refine wp_iload (i := 6) dX11_livesOf_131 rfl ?_
        exact wp_ireturn dX11_livesOf_133 rfl ⟨_, rfl, h⟩
      · replace h := h.2 q
        refine wp_iconst (v := nI 2) dX11_livesOf_124 rfl ?_
        refine wp_iload (i := 6) dX11_livesOf_125 rfl ?_
        refine wp_imul dX11_livesOf_127 ?_
        refine wp_goto (tgt := 133) dX11_livesOf_128 (by decide) ?_
        exact wp_ireturn dX11_livesOf_133 rfl ⟨_, rfl, h⟩
    rcases Classical.em (y4 = nI 5) with q4 | q4
    · replace h := h.2.2.2.2.1 q4
      refine wp_tswIn (off := 74) (tgt := 134) dX11_livesOf_60 (by rw [q4]; decide) (by rw [q4]; decide) (by rw [q4]; rfl) (by decide) ?_
      refine wp_iload (i := 5) dX11_livesOf_134 rfl ?_
      refine wp_iconst (v := nI 4) dX11_livesOf_136 rfl ?_
      refine wp_icmple (tgt := 148) dX11_livesOf_137 (by decide) ⟨fun q => ?_, fun q => ?_⟩
      · replace h := h.1 q
        refine wp_iload (i := 7) dX11_livesOf_148 rfl ?_
        exact wp_ireturn dX11_livesOf_150 rfl ⟨_, rfl, h⟩
      · replace h := h.2 q
        refine wp_iload (i := 7) dX11_livesOf_140 rfl ?_
        refine wp_iload (i := 4) dX11_livesOf_142 rfl ?_
        refine wp_iadd dX11_livesOf_144 ?_
        refine wp_goto (tgt := 150) dX11_livesOf_145 (by decide) ?_
        exact wp_ireturn dX11_livesOf_150 rfl ⟨_, rfl, h⟩
    rcases Classical.em (y4 = nI 6) with q5 | q5
    · replace h := h.2.2.2.2.2.1 q5
      refine wp_tswIn (off := 91) (tgt := 151) dX11_livesOf_60 (by rw [q5]; decide) (by rw [q5]; decide) (by rw [q5]; rfl) (by decide) ?_
      refine wp_iconst (v := nI 1) dX11_livesOf_151 rfl ?_
      exact wp_ireturn dX11_livesOf_152 rfl ⟨_, rfl, h⟩
    have nq0 := lv_neT q0 (show ((nI 1) : Int32).toInt = 1 by decide)
    have nq1 := lv_neT q1 (show ((nI 2) : Int32).toInt = 2 by decide)
    have nq2 := lv_neT q2 (show ((nI 3) : Int32).toInt = 3 by decide)
    have nq3 := lv_neT q3 (show ((nI 4) : Int32).toInt = 4 by decide)
    have nq4 := lv_neT q4 (show ((nI 5) : Int32).toInt = 5 by decide)
    have nq5 := lv_neT q5 (show ((nI 6) : Int32).toInt = 6 by decide)
    replace h := h.2.2.2.2.2.2 q0 q1 q2 q3 q4 q5
    refine wp_tswOut (tgt := 153) dX11_livesOf_60 (by omega) (by decide) ?_
    refine wp_iload_n (i := 3) dX11_livesOf_153 rfl rfl ?_
    exact wp_ireturn dX11_livesOf_154 rfl ⟨_, rfl, h⟩
set_option maxRecDepth 20000 in
set_option maxHeartbeats 2000000 in
theorem vc_Md_livesOf {E : KE} {d : Nat} {x1 : Int32} {x2 : Int32} {σ : Sg} {K : Int32 → Sg → Prop} (h : CallI E shR d mX11_of [.ref 0, .int x1, .int ((nI 4) + x2)] σ (fun y2 σ1 => CallI E shR d mX11_of [.ref 0, .int x1, .int (nI 1)] σ1 (fun y4 σ3 => (¬ (x2 - x2 / (nI 7) * (nI 7)) = (y4 - y4 / (nI 7) * (nI 7)) → WP E shR mX11_livesOf (d + 1) 38 [some (.ref 0), some (.int x1), none, some (.int y2), some (.int y4), some (.int (x2 - x2 / (nI 7) * (nI 7))), none, none] [.int y2] σ3 (k_qi K)) ∧ ((x2 - x2 / (nI 7) * (nI 7)) = (y4 - y4 / (nI 7) * (nI 7)) → WP E shR mX11_livesOf (d + 1) 38 [some (.ref 0), some (.int x1), none, some (.int y2), some (.int y4), some (.int (x2 - x2 / (nI 7) * (nI 7))), none, none] [.int (nI 0)] σ3 (k_qi K))))) : CallI E shR (d + 1) mX11_livesOf [.ref 0, .int x1, .int x2] σ K := by
  refine wp_enter (Lo := [some (.ref 0), some (.int x1), some (.int x2), none, none, none, none, none]) mp_X11_livesOf (Nat.le_of_ble_eq_true rfl) rfl ?_
  refine wp_aload_n (i := 0) dX11_livesOf_0 rfl rfl ?_
  refine wp_iload_n (i := 1) dX11_livesOf_1 rfl rfl ?_
  refine wp_iconst (v := nI 4) dX11_livesOf_2 rfl ?_
  refine wp_iload_n (i := 2) dX11_livesOf_3 rfl rfl ?_
  refine wp_iadd dX11_livesOf_4 ?_
  refine wp_callVI (vs := [.int x1, .int ((nI 4) + x2)]) (rest := []) dX11_livesOf_5 mV_X11_of lm_X11_65 hR_0 rfl rfl rfl (Nat.le_of_ble_eq_true rfl) (CallI.mono h (fun y2 σ1 h => ?_))
  refine wp_istore_n (i := 3) (Lo' := [some (.ref 0), some (.int x1), some (.int x2), some (.int y2), none, none, none, none]) dX11_livesOf_8 rfl (by decide) rfl rfl ?_
  refine wp_aload_n (i := 0) dX11_livesOf_9 rfl rfl ?_
  refine wp_iload_n (i := 1) dX11_livesOf_10 rfl rfl ?_
  refine wp_iconst (v := nI 1) dX11_livesOf_11 rfl ?_
  refine wp_callVI (vs := [.int x1, .int (nI 1)]) (rest := []) dX11_livesOf_12 mV_X11_of lm_X11_65 hR_0 rfl rfl rfl (Nat.le_of_ble_eq_true rfl) (CallI.mono h (fun y4 σ3 h => ?_))
  refine wp_istore (i := 4) (Lo' := [some (.ref 0), some (.int x1), some (.int x2), some (.int y2), some (.int y4), none, none, none]) dX11_livesOf_15 (by decide) rfl rfl ?_
  refine wp_iload_n (i := 2) dX11_livesOf_17 rfl rfl ?_
  refine wp_bipush (v := nI 7) dX11_livesOf_18 (by decide) ?_
  refine wp_irem dX11_livesOf_20 ⟨by decide, ?_⟩
  refine wp_istore (i := 5) (Lo' := [some (.ref 0), some (.int x1), some (.int x2), some (.int y2), some (.int y4), some (.int (x2 - x2 / (nI 7) * (nI 7))), none, none]) dX11_livesOf_21 (by decide) rfl rfl ?_
  refine wp_iload (i := 5) dX11_livesOf_23 rfl ?_
  refine wp_iload (i := 4) dX11_livesOf_25 rfl ?_
  refine wp_bipush (v := nI 7) dX11_livesOf_27 (by decide) ?_
  refine wp_irem dX11_livesOf_29 ⟨by decide, ?_⟩
  refine wp_icmpne (tgt := 37) dX11_livesOf_30 (by decide) ⟨fun q => ?_, fun q => ?_⟩
  · replace h := h.1 q
    refine wp_iload_n (i := 3) dX11_livesOf_37 rfl rfl ?_
    exact wp_mask [true, true, false, true, true, true, false, false] h
  · replace h := h.2 q
    refine wp_iconst (v := nI 0) dX11_livesOf_33 rfl ?_
    refine wp_goto (tgt := 38) dX11_livesOf_34 (by decide) ?_
    exact wp_mask [true, true, false, true, true, true, false, false] h
set_option maxRecDepth 20000 in
set_option maxHeartbeats 2000000 in
theorem vc_Md_personIs {E : KE} {d : Nat} {x1 : Int32} {x2 : Int32} {σ : Sg} {K : Int32 → Sg → Prop} (h : CallI E shR d mX11_isPerson [.ref 0, .int x1] σ (fun y2 σ1 => (y2 = 0 → CallI E shR d mX11_error [.ref 0, .int (-1000000001 : Int32)] σ1 (fun y4 σ3 => K y4 σ3)) ∧ (¬ y2 = 0 → CallI E shR d mX11_in [.int x2, .int (nI 0), .int (nI 4)] σ1 (fun y6 σ5 => (¬ y6 = 0 → ((nI 4) ≤ x2 → vp_in (nI 0) 552 ∧ (CallI E shR d mX11_livesOf [.ref 0, .int x1, .int ((σ5 1 (nI 0).toNatClampNeg) - (σ5 1 (nI 0).toNatClampNeg) / (nI 28) * (nI 28))] σ5 (fun y8 σ7 => K y8 σ7))) ∧ (¬ (nI 4) ≤ x2 → CallI E shR d mX11_of [.ref 0, .int x1, .int x2] σ5 (fun y10 σ9 => K y10 σ9))) ∧ (y6 = 0 → CallI E shR d mX11_error [.ref 0, .int (-1000000001 : Int32)] σ5 (fun y12 σ11 => K y12 σ11)))))) : CallI E shR (d + 1) mX11_personIs [.ref 0, .int x1, .int x2] σ K := by
  refine wp_enter (Lo := [some (.ref 0), some (.int x1), some (.int x2)]) mp_X11_personIs (Nat.le_of_ble_eq_true rfl) rfl ?_
  refine wp_aload_n (i := 0) dX11_personIs_0 rfl rfl ?_
  refine wp_iload_n (i := 1) dX11_personIs_1 rfl rfl ?_
  refine wp_callVI (vs := [.int x1]) (rest := []) dX11_personIs_2 mV_X11_isPerson lm_X11_57 hR_0 rfl rfl rfl (Nat.le_of_ble_eq_true rfl) (CallI.mono h (fun y2 σ1 h => ?_))
  refine wp_ifeq (tgt := 17) dX11_personIs_5 (by decide) ⟨fun q => ?_, fun q => ?_⟩
  · replace h := h.1 q
    refine wp_aload_n (i := 0) dX11_personIs_17 rfl rfl ?_
    refine wp_ldc lc_X11_85 dX11_personIs_18 ?_
    refine wp_callVI (vs := [.int (-1000000001 : Int32)]) (rest := []) dX11_personIs_20 mV_X11_error lm_X11_86 hR_0 rfl rfl rfl (Nat.le_of_ble_eq_true rfl) (CallI.mono h (fun y4 σ3 h => ?_))
    exact wp_ireturn dX11_personIs_23 rfl ⟨_, rfl, h⟩
  · replace h := h.2 q
    refine wp_iload_n (i := 2) dX11_personIs_8 rfl rfl ?_
    refine wp_iconst (v := nI 0) dX11_personIs_9 rfl ?_
    refine wp_iconst (v := nI 4) dX11_personIs_10 rfl ?_
    refine wp_callSI (vs := [.int x2, .int (nI 0), .int (nI 4)]) (rest := []) dX11_personIs_11 mS_X11_in lm_X11_53 rfl rfl (Nat.le_of_ble_eq_true rfl) (CallI.mono h (fun y6 σ5 h => ?_))
    refine wp_ifne (tgt := 24) dX11_personIs_14 (by decide) ⟨fun q => ?_, fun q => ?_⟩
    · replace h := h.1 q
      refine wp_iload_n (i := 2) dX11_personIs_24 rfl rfl ?_
      refine wp_iconst (v := nI 4) dX11_personIs_25 rfl ?_
      refine wp_icmpge (tgt := 38) dX11_personIs_26 (by decide) ⟨fun q => ?_, fun q => ?_⟩
      · replace h := h.1 q
        refine wp_aload_n (i := 0) dX11_personIs_38 rfl rfl ?_
        refine wp_iload_n (i := 1) dX11_personIs_39 rfl rfl ?_
        refine wp_aload_n (i := 0) dX11_personIs_40 rfl rfl ?_
        refine wp_getR (t := 1) dX11_personIs_41 lf_X11_9 hR_0 rfl ?_
        refine wp_iconst (v := nI 0) dX11_personIs_44 rfl ?_
        refine wp_iald dX11_personIs_45 hR_1 ⟨h.1, ?_⟩
        replace h := h.2
        refine wp_bipush (v := nI 28) dX11_personIs_46 (by decide) ?_
        refine wp_irem dX11_personIs_48 ⟨by decide, ?_⟩
        refine wp_callVI (vs := [.int x1, .int ((σ5 1 (nI 0).toNatClampNeg) - (σ5 1 (nI 0).toNatClampNeg) / (nI 28) * (nI 28))]) (rest := []) dX11_personIs_49 mV_X11_livesOf lm_X11_69 hR_0 rfl rfl rfl (Nat.le_of_ble_eq_true rfl) (CallI.mono h (fun y8 σ7 h => ?_))
        exact wp_ireturn dX11_personIs_52 rfl ⟨_, rfl, h⟩
      · replace h := h.2 q
        refine wp_aload_n (i := 0) dX11_personIs_29 rfl rfl ?_
        refine wp_iload_n (i := 1) dX11_personIs_30 rfl rfl ?_
        refine wp_iload_n (i := 2) dX11_personIs_31 rfl rfl ?_
        refine wp_callVI (vs := [.int x1, .int x2]) (rest := []) dX11_personIs_32 mV_X11_of lm_X11_65 hR_0 rfl rfl rfl (Nat.le_of_ble_eq_true rfl) (CallI.mono h (fun y10 σ9 h => ?_))
        refine wp_goto (tgt := 52) dX11_personIs_35 (by decide) ?_
        exact wp_ireturn dX11_personIs_52 rfl ⟨_, rfl, h⟩
    · replace h := h.2 q
      refine wp_aload_n (i := 0) dX11_personIs_17 rfl rfl ?_
      refine wp_ldc lc_X11_85 dX11_personIs_18 ?_
      refine wp_callVI (vs := [.int (-1000000001 : Int32)]) (rest := []) dX11_personIs_20 mV_X11_error lm_X11_86 hR_0 rfl rfl rfl (Nat.le_of_ble_eq_true rfl) (CallI.mono h (fun y12 σ11 h => ?_))
      exact wp_ireturn dX11_personIs_23 rfl ⟨_, rfl, h⟩
set_option maxRecDepth 20000 in
set_option maxHeartbeats 2000000 in
theorem vc_Md_becomes {E : KE} {d : Nat} {x1 : Int32} {x2 : Int32} {σ : Sg} {K : Int32 → Sg → Prop} (h : vp_in x1 552 ∧ (vp_in x1 552 ∧ (∀ σ1, σ1 = k_put σ 1 (upd (σ 1) x1.toNatClampNeg x2) → K (σ 1 x1.toNatClampNeg) σ1))) : CallI E shR d mX11_becomes [.ref 0, .int x1, .int x2] σ K := by
  refine wp_enter (Lo := [some (.ref 0), some (.int x1), some (.int x2), none]) mp_X11_becomes (Nat.le_of_ble_eq_true rfl) rfl ?_
  refine wp_aload_n (i := 0) dX11_becomes_0 rfl rfl ?_
  refine wp_getR (t := 1) dX11_becomes_1 lf_X11_9 hR_0 rfl ?_
  refine wp_iload_n (i := 1) dX11_becomes_4 rfl rfl ?_
  refine wp_iald dX11_becomes_5 hR_1 ⟨h.1, ?_⟩
  replace h := h.2
  refine wp_istore_n (i := 3) (Lo' := [some (.ref 0), some (.int x1), some (.int x2), some (.int (σ 1 x1.toNatClampNeg))]) dX11_becomes_6 rfl (by decide) rfl rfl ?_
  refine wp_aload_n (i := 0) dX11_becomes_7 rfl rfl ?_
  refine wp_getR (t := 1) dX11_becomes_8 lf_X11_9 hR_0 rfl ?_
  refine wp_iload_n (i := 1) dX11_becomes_11 rfl rfl ?_
  refine wp_iload_n (i := 2) dX11_becomes_12 rfl rfl ?_
  refine wp_iast dX11_becomes_13 hR_1 ⟨h.1, ?_⟩
  refine wp_nm (fun σ1 e2 => ?_)
  replace h := h.2 σ1 e2
  refine wp_iload_n (i := 3) dX11_becomes_14 rfl rfl ?_
  exact wp_ireturn dX11_becomes_15 rfl ⟨_, rfl, h⟩
set_option maxRecDepth 20000 in
set_option maxHeartbeats 2000000 in
theorem vc_Md_become {E : KE} {d : Nat} {x1 : Int32} {x2 : Int32} {σ : Sg} {K : Int32 → Sg → Prop} (h : CallI E shR d mX11_isPerson [.ref 0, .int x1] σ (fun y2 σ1 => (y2 = 0 → CallI E shR d mX11_error [.ref 0, .int (-1000000001 : Int32)] σ1 (fun y4 σ3 => K y4 σ3)) ∧ (¬ y2 = 0 → CallI E shR d mX11_isKm [.int x2] σ1 (fun y6 σ5 => (¬ y6 = 0 → CallN E shR d mX11_lay [.ref 0, .int x1, .int (nI 1), .int (x2 - x2 / (nI 10) * (nI 10))] σ5 (fun σ7 => CallI E shR d mX11_becomes [.ref 0, .int ((nI 10) + ((nI 32) * x1)), .int (x2 / (nI 10))] σ7 (fun y9 σ8 => K y9 σ8))) ∧ (y6 = 0 → CallI E shR d mX11_error [.ref 0, .int (-1000000001 : Int32)] σ5 (fun y11 σ10 => K y11 σ10)))))) : CallI E shR (d + 1) mX11_become [.ref 0, .int x1, .int x2] σ K := by
  refine wp_enter (Lo := [some (.ref 0), some (.int x1), some (.int x2)]) mp_X11_become (Nat.le_of_ble_eq_true rfl) rfl ?_
  refine wp_aload_n (i := 0) dX11_become_0 rfl rfl ?_
  refine wp_iload_n (i := 1) dX11_become_1 rfl rfl ?_
  refine wp_callVI (vs := [.int x1]) (rest := []) dX11_become_2 mV_X11_isPerson lm_X11_57 hR_0 rfl rfl rfl (Nat.le_of_ble_eq_true rfl) (CallI.mono h (fun y2 σ1 h => ?_))
  refine wp_ifeq (tgt := 15) dX11_become_5 (by decide) ⟨fun q => ?_, fun q => ?_⟩
  · replace h := h.1 q
    refine wp_aload_n (i := 0) dX11_become_15 rfl rfl ?_
    refine wp_ldc lc_X11_85 dX11_become_16 ?_
    refine wp_callVI (vs := [.int (-1000000001 : Int32)]) (rest := []) dX11_become_18 mV_X11_error lm_X11_86 hR_0 rfl rfl rfl (Nat.le_of_ble_eq_true rfl) (CallI.mono h (fun y4 σ3 h => ?_))
    exact wp_ireturn dX11_become_21 rfl ⟨_, rfl, h⟩
  · replace h := h.2 q
    refine wp_iload_n (i := 2) dX11_become_8 rfl rfl ?_
    refine wp_callSI (vs := [.int x2]) (rest := []) dX11_become_9 mS_X11_isKm lm_X11_82 rfl rfl (Nat.le_of_ble_eq_true rfl) (CallI.mono h (fun y6 σ5 h => ?_))
    refine wp_ifne (tgt := 22) dX11_become_12 (by decide) ⟨fun q => ?_, fun q => ?_⟩
    · replace h := h.1 q
      refine wp_aload_n (i := 0) dX11_become_22 rfl rfl ?_
      refine wp_iload_n (i := 1) dX11_become_23 rfl rfl ?_
      refine wp_iconst (v := nI 1) dX11_become_24 rfl ?_
      refine wp_iload_n (i := 2) dX11_become_25 rfl rfl ?_
      refine wp_bipush (v := nI 10) dX11_become_26 (by decide) ?_
      refine wp_irem dX11_become_28 ⟨by decide, ?_⟩
      refine wp_callVN (vs := [.int x1, .int (nI 1), .int (x2 - x2 / (nI 10) * (nI 10))]) (rest := []) dX11_become_29 mV_X11_lay lm_X11_91 hR_0 rfl rfl rfl (Nat.le_of_ble_eq_true rfl) (CallN.mono h (fun σ7 h => ?_))
      refine wp_aload_n (i := 0) dX11_become_32 rfl rfl ?_
      refine wp_bipush (v := nI 10) dX11_become_33 (by decide) ?_
      refine wp_bipush (v := nI 32) dX11_become_35 (by decide) ?_
      refine wp_iload_n (i := 1) dX11_become_37 rfl rfl ?_
      refine wp_imul dX11_become_38 ?_
      refine wp_iadd dX11_become_39 ?_
      refine wp_iload_n (i := 2) dX11_become_40 rfl rfl ?_
      refine wp_bipush (v := nI 10) dX11_become_41 (by decide) ?_
      refine wp_idiv dX11_become_43 ⟨by decide, ?_⟩
      refine wp_callVI (vs := [.int ((nI 10) + ((nI 32) * x1)), .int (x2 / (nI 10))]) (rest := []) dX11_become_44 mV_X11_becomes lm_X11_95 hR_0 rfl rfl rfl (Nat.le_of_ble_eq_true rfl) (CallI.mono h (fun y9 σ8 h => ?_))
      exact wp_ireturn dX11_become_47 rfl ⟨_, rfl, h⟩
    · replace h := h.2 q
      refine wp_aload_n (i := 0) dX11_become_15 rfl rfl ?_
      refine wp_ldc lc_X11_85 dX11_become_16 ?_
      refine wp_callVI (vs := [.int (-1000000001 : Int32)]) (rest := []) dX11_become_18 mV_X11_error lm_X11_86 hR_0 rfl rfl rfl (Nat.le_of_ble_eq_true rfl) (CallI.mono h (fun y11 σ10 h => ?_))
      exact wp_ireturn dX11_become_21 rfl ⟨_, rfl, h⟩
set_option maxRecDepth 20000 in
set_option maxHeartbeats 2000000 in
theorem vb_Md_as_51 {E : KE} {d : Nat} {x1 : Int32} {x2 : Int32} {x3 : Int32} {σ : Sg} {K : Int32 → Sg → Prop} (h : (¬ x2 = (nI 2) → ((nI 0) = 0 → CallI E shR d mX11_error [.ref 0, .int (-1000000005 : Int32)] σ (fun y2 σ1 => K y2 σ1)) ∧ (¬ (nI 0) = 0 → CallI E shR d mX11_of [.ref 0, .int x1, .int (nI 1)] σ (fun y4 σ3 => K y4 σ3))) ∧ (x2 = (nI 2) → (¬ x3 = (nI 5) → ((nI 0) = 0 → CallI E shR d mX11_error [.ref 0, .int (-1000000005 : Int32)] σ (fun y6 σ5 => K y6 σ5)) ∧ (¬ (nI 0) = 0 → CallI E shR d mX11_of [.ref 0, .int x1, .int (nI 1)] σ (fun y8 σ7 => K y8 σ7))) ∧ (x3 = (nI 5) → ((nI 1) = 0 → CallI E shR d mX11_error [.ref 0, .int (-1000000005 : Int32)] σ (fun y10 σ9 => K y10 σ9)) ∧ (¬ (nI 1) = 0 → CallI E shR d mX11_of [.ref 0, .int x1, .int (nI 1)] σ (fun y12 σ11 => K y12 σ11))))) : WP E shR mX11_as (d + 1) 51 [some (.ref 0), some (.int x1), some (.int x2), some (.int x3), none] [] σ (k_qi K) := by
  refine wp_iload_n (i := 2) dX11_as_51 rfl rfl ?_
  refine wp_iconst (v := nI 2) dX11_as_52 rfl ?_
  refine wp_icmpne (tgt := 65) dX11_as_53 (by decide) ⟨fun q => ?_, fun q => ?_⟩
  · replace h := h.1 q
    refine wp_iconst (v := nI 0) dX11_as_65 rfl ?_
    refine wp_istore (i := 4) (Lo' := [some (.ref 0), some (.int x1), some (.int x2), some (.int x3), some (.int (nI 0))]) dX11_as_66 (by decide) rfl rfl ?_
    refine wp_iload (i := 4) dX11_as_68 rfl ?_
    refine wp_ifeq (tgt := 82) dX11_as_70 (by decide) ⟨fun q => ?_, fun q => ?_⟩
    · replace h := h.1 q
      refine wp_aload_n (i := 0) dX11_as_82 rfl rfl ?_
      refine wp_ldc lc_X11_98 dX11_as_83 ?_
      refine wp_callVI (vs := [.int (-1000000005 : Int32)]) (rest := []) dX11_as_85 mV_X11_error lm_X11_86 hR_0 rfl rfl rfl (Nat.le_of_ble_eq_true rfl) (CallI.mono h (fun y2 σ1 h => ?_))
      exact wp_ireturn dX11_as_88 rfl ⟨_, rfl, h⟩
    · replace h := h.2 q
      refine wp_aload_n (i := 0) dX11_as_73 rfl rfl ?_
      refine wp_iload_n (i := 1) dX11_as_74 rfl rfl ?_
      refine wp_iconst (v := nI 1) dX11_as_75 rfl ?_
      refine wp_callVI (vs := [.int x1, .int (nI 1)]) (rest := []) dX11_as_76 mV_X11_of lm_X11_65 hR_0 rfl rfl rfl (Nat.le_of_ble_eq_true rfl) (CallI.mono h (fun y4 σ3 h => ?_))
      refine wp_goto (tgt := 88) dX11_as_79 (by decide) ?_
      exact wp_ireturn dX11_as_88 rfl ⟨_, rfl, h⟩
  · replace h := h.2 q
    refine wp_iload_n (i := 3) dX11_as_56 rfl rfl ?_
    refine wp_iconst (v := nI 5) dX11_as_57 rfl ?_
    refine wp_icmpne (tgt := 65) dX11_as_58 (by decide) ⟨fun q => ?_, fun q => ?_⟩
    · replace h := h.1 q
      refine wp_iconst (v := nI 0) dX11_as_65 rfl ?_
      refine wp_istore (i := 4) (Lo' := [some (.ref 0), some (.int x1), some (.int x2), some (.int x3), some (.int (nI 0))]) dX11_as_66 (by decide) rfl rfl ?_
      refine wp_iload (i := 4) dX11_as_68 rfl ?_
      refine wp_ifeq (tgt := 82) dX11_as_70 (by decide) ⟨fun q => ?_, fun q => ?_⟩
      · replace h := h.1 q
        refine wp_aload_n (i := 0) dX11_as_82 rfl rfl ?_
        refine wp_ldc lc_X11_98 dX11_as_83 ?_
        refine wp_callVI (vs := [.int (-1000000005 : Int32)]) (rest := []) dX11_as_85 mV_X11_error lm_X11_86 hR_0 rfl rfl rfl (Nat.le_of_ble_eq_true rfl) (CallI.mono h (fun y6 σ5 h => ?_))
        exact wp_ireturn dX11_as_88 rfl ⟨_, rfl, h⟩
      · replace h := h.2 q
        refine wp_aload_n (i := 0) dX11_as_73 rfl rfl ?_
        refine wp_iload_n (i := 1) dX11_as_74 rfl rfl ?_
        refine wp_iconst (v := nI 1) dX11_as_75 rfl ?_
        refine wp_callVI (vs := [.int x1, .int (nI 1)]) (rest := []) dX11_as_76 mV_X11_of lm_X11_65 hR_0 rfl rfl rfl (Nat.le_of_ble_eq_true rfl) (CallI.mono h (fun y8 σ7 h => ?_))
        refine wp_goto (tgt := 88) dX11_as_79 (by decide) ?_
        exact wp_ireturn dX11_as_88 rfl ⟨_, rfl, h⟩
    · replace h := h.2 q
      refine wp_iconst (v := nI 1) dX11_as_61 rfl ?_
      refine wp_goto (tgt := 66) dX11_as_62 (by decide) ?_
      refine wp_istore (i := 4) (Lo' := [some (.ref 0), some (.int x1), some (.int x2), some (.int x3), some (.int (nI 1))]) dX11_as_66 (by decide) rfl rfl ?_
      refine wp_iload (i := 4) dX11_as_68 rfl ?_
      refine wp_ifeq (tgt := 82) dX11_as_70 (by decide) ⟨fun q => ?_, fun q => ?_⟩
      · replace h := h.1 q
        refine wp_aload_n (i := 0) dX11_as_82 rfl rfl ?_
        refine wp_ldc lc_X11_98 dX11_as_83 ?_
        refine wp_callVI (vs := [.int (-1000000005 : Int32)]) (rest := []) dX11_as_85 mV_X11_error lm_X11_86 hR_0 rfl rfl rfl (Nat.le_of_ble_eq_true rfl) (CallI.mono h (fun y10 σ9 h => ?_))
        exact wp_ireturn dX11_as_88 rfl ⟨_, rfl, h⟩
      · replace h := h.2 q
        refine wp_aload_n (i := 0) dX11_as_73 rfl rfl ?_
        refine wp_iload_n (i := 1) dX11_as_74 rfl rfl ?_
        refine wp_iconst (v := nI 1) dX11_as_75 rfl ?_
        refine wp_callVI (vs := [.int x1, .int (nI 1)]) (rest := []) dX11_as_76 mV_X11_of lm_X11_65 hR_0 rfl rfl rfl (Nat.le_of_ble_eq_true rfl) (CallI.mono h (fun y12 σ11 h => ?_))
        refine wp_goto (tgt := 88) dX11_as_79 (by decide) ?_
        exact wp_ireturn dX11_as_88 rfl ⟨_, rfl, h⟩
set_option maxRecDepth 20000 in
set_option maxHeartbeats 2000000 in
theorem vc_Md_as {E : KE} {d : Nat} {x1 : Int32} {x2 : Int32} {σ : Sg} {K : Int32 → Sg → Prop} (h : CallI E shR d mX11_isPerson [.ref 0, .int x1] σ (fun y2 σ1 => (y2 = 0 → CallI E shR d mX11_error [.ref 0, .int (-1000000001 : Int32)] σ1 (fun y4 σ3 => K y4 σ3)) ∧ (¬ y2 = 0 → CallI E shR d mX11_in [.int x2, .int (nI 0), .int (nI 6)] σ1 (fun y6 σ5 => (¬ y6 = 0 → CallI E shR d mX11_of [.ref 0, .int x1, .int (nI 0)] σ5 (fun y8 σ7 => (x2 = 0 → ((nI 1) = 0 → CallI E shR d mX11_error [.ref 0, .int (-1000000005 : Int32)] σ7 (fun y10 σ9 => K y10 σ9)) ∧ (¬ (nI 1) = 0 → CallI E shR d mX11_of [.ref 0, .int x1, .int (nI 1)] σ7 (fun y12 σ11 => K y12 σ11))) ∧ (¬ x2 = 0 → (x2 = y8 → ((nI 1) = 0 → CallI E shR d mX11_error [.ref 0, .int (-1000000005 : Int32)] σ7 (fun y14 σ13 => K y14 σ13)) ∧ (¬ (nI 1) = 0 → CallI E shR d mX11_of [.ref 0, .int x1, .int (nI 1)] σ7 (fun y16 σ15 => K y16 σ15))) ∧ (¬ x2 = y8 → (¬ x2 = (nI 1) → WP E shR mX11_as (d + 1) 51 [some (.ref 0), some (.int x1), some (.int x2), some (.int y8), none] [] σ7 (k_qi K)) ∧ (x2 = (nI 1) → (y8 = (nI 4) → ((nI 1) = 0 → CallI E shR d mX11_error [.ref 0, .int (-1000000005 : Int32)] σ7 (fun y18 σ17 => K y18 σ17)) ∧ (¬ (nI 1) = 0 → CallI E shR d mX11_of [.ref 0, .int x1, .int (nI 1)] σ7 (fun y20 σ19 => K y20 σ19))) ∧ (¬ y8 = (nI 4) → WP E shR mX11_as (d + 1) 51 [some (.ref 0), some (.int x1), some (.int x2), some (.int y8), none] [] σ7 (k_qi K))))))) ∧ (y6 = 0 → CallI E shR d mX11_error [.ref 0, .int (-1000000001 : Int32)] σ5 (fun y22 σ21 => K y22 σ21)))))) : CallI E shR (d + 1) mX11_as [.ref 0, .int x1, .int x2] σ K := by
  refine wp_enter (Lo := [some (.ref 0), some (.int x1), some (.int x2), none, none]) mp_X11_as (Nat.le_of_ble_eq_true rfl) rfl ?_
  refine wp_aload_n (i := 0) dX11_as_0 rfl rfl ?_
  refine wp_iload_n (i := 1) dX11_as_1 rfl rfl ?_
  refine wp_callVI (vs := [.int x1]) (rest := []) dX11_as_2 mV_X11_isPerson lm_X11_57 hR_0 rfl rfl rfl (Nat.le_of_ble_eq_true rfl) (CallI.mono h (fun y2 σ1 h => ?_))
  refine wp_ifeq (tgt := 18) dX11_as_5 (by decide) ⟨fun q => ?_, fun q => ?_⟩
  · replace h := h.1 q
    refine wp_aload_n (i := 0) dX11_as_18 rfl rfl ?_
    refine wp_ldc lc_X11_85 dX11_as_19 ?_
    refine wp_callVI (vs := [.int (-1000000001 : Int32)]) (rest := []) dX11_as_21 mV_X11_error lm_X11_86 hR_0 rfl rfl rfl (Nat.le_of_ble_eq_true rfl) (CallI.mono h (fun y4 σ3 h => ?_))
    exact wp_ireturn dX11_as_24 rfl ⟨_, rfl, h⟩
  · replace h := h.2 q
    refine wp_iload_n (i := 2) dX11_as_8 rfl rfl ?_
    refine wp_iconst (v := nI 0) dX11_as_9 rfl ?_
    refine wp_bipush (v := nI 6) dX11_as_10 (by decide) ?_
    refine wp_callSI (vs := [.int x2, .int (nI 0), .int (nI 6)]) (rest := []) dX11_as_12 mS_X11_in lm_X11_53 rfl rfl (Nat.le_of_ble_eq_true rfl) (CallI.mono h (fun y6 σ5 h => ?_))
    refine wp_ifne (tgt := 25) dX11_as_15 (by decide) ⟨fun q => ?_, fun q => ?_⟩
    · replace h := h.1 q
      refine wp_aload_n (i := 0) dX11_as_25 rfl rfl ?_
      refine wp_iload_n (i := 1) dX11_as_26 rfl rfl ?_
      refine wp_iconst (v := nI 0) dX11_as_27 rfl ?_
      refine wp_callVI (vs := [.int x1, .int (nI 0)]) (rest := []) dX11_as_28 mV_X11_of lm_X11_65 hR_0 rfl rfl rfl (Nat.le_of_ble_eq_true rfl) (CallI.mono h (fun y8 σ7 h => ?_))
      refine wp_istore_n (i := 3) (Lo' := [some (.ref 0), some (.int x1), some (.int x2), some (.int y8), none]) dX11_as_31 rfl (by decide) rfl rfl ?_
      refine wp_iload_n (i := 2) dX11_as_32 rfl rfl ?_
      refine wp_ifeq (tgt := 61) dX11_as_33 (by decide) ⟨fun q => ?_, fun q => ?_⟩
      · replace h := h.1 q
        refine wp_iconst (v := nI 1) dX11_as_61 rfl ?_
        refine wp_goto (tgt := 66) dX11_as_62 (by decide) ?_
        refine wp_istore (i := 4) (Lo' := [some (.ref 0), some (.int x1), some (.int x2), some (.int y8), some (.int (nI 1))]) dX11_as_66 (by decide) rfl rfl ?_
        refine wp_iload (i := 4) dX11_as_68 rfl ?_
        refine wp_ifeq (tgt := 82) dX11_as_70 (by decide) ⟨fun q => ?_, fun q => ?_⟩
        · replace h := h.1 q
          refine wp_aload_n (i := 0) dX11_as_82 rfl rfl ?_
          refine wp_ldc lc_X11_98 dX11_as_83 ?_
          refine wp_callVI (vs := [.int (-1000000005 : Int32)]) (rest := []) dX11_as_85 mV_X11_error lm_X11_86 hR_0 rfl rfl rfl (Nat.le_of_ble_eq_true rfl) (CallI.mono h (fun y10 σ9 h => ?_))
          exact wp_ireturn dX11_as_88 rfl ⟨_, rfl, h⟩
        · replace h := h.2 q
          refine wp_aload_n (i := 0) dX11_as_73 rfl rfl ?_
          refine wp_iload_n (i := 1) dX11_as_74 rfl rfl ?_
          refine wp_iconst (v := nI 1) dX11_as_75 rfl ?_
          refine wp_callVI (vs := [.int x1, .int (nI 1)]) (rest := []) dX11_as_76 mV_X11_of lm_X11_65 hR_0 rfl rfl rfl (Nat.le_of_ble_eq_true rfl) (CallI.mono h (fun y12 σ11 h => ?_))
          refine wp_goto (tgt := 88) dX11_as_79 (by decide) ?_
          exact wp_ireturn dX11_as_88 rfl ⟨_, rfl, h⟩
      · replace h := h.2 q
        refine wp_iload_n (i := 2) dX11_as_36 rfl rfl ?_
        refine wp_iload_n (i := 3) dX11_as_37 rfl rfl ?_
        refine wp_icmpeq (tgt := 61) dX11_as_38 (by decide) ⟨fun q => ?_, fun q => ?_⟩
        · replace h := h.1 q
          refine wp_iconst (v := nI 1) dX11_as_61 rfl ?_
          refine wp_goto (tgt := 66) dX11_as_62 (by decide) ?_
          refine wp_istore (i := 4) (Lo' := [some (.ref 0), some (.int x1), some (.int x2), some (.int y8), some (.int (nI 1))]) dX11_as_66 (by decide) rfl rfl ?_
          refine wp_iload (i := 4) dX11_as_68 rfl ?_
          refine wp_ifeq (tgt := 82) dX11_as_70 (by decide) ⟨fun q => ?_, fun q => ?_⟩
          · replace h := h.1 q
            refine wp_aload_n (i := 0) dX11_as_82 rfl rfl ?_
            refine wp_ldc lc_X11_98 dX11_as_83 ?_
            refine wp_callVI (vs := [.int (-1000000005 : Int32)]) (rest := []) dX11_as_85 mV_X11_error lm_X11_86 hR_0 rfl rfl rfl (Nat.le_of_ble_eq_true rfl) (CallI.mono h (fun y14 σ13 h => ?_))
            exact wp_ireturn dX11_as_88 rfl ⟨_, rfl, h⟩
          · replace h := h.2 q
            refine wp_aload_n (i := 0) dX11_as_73 rfl rfl ?_
            refine wp_iload_n (i := 1) dX11_as_74 rfl rfl ?_
            refine wp_iconst (v := nI 1) dX11_as_75 rfl ?_
            refine wp_callVI (vs := [.int x1, .int (nI 1)]) (rest := []) dX11_as_76 mV_X11_of lm_X11_65 hR_0 rfl rfl rfl (Nat.le_of_ble_eq_true rfl) (CallI.mono h (fun y16 σ15 h => ?_))
            refine wp_goto (tgt := 88) dX11_as_79 (by decide) ?_
            exact wp_ireturn dX11_as_88 rfl ⟨_, rfl, h⟩
        · replace h := h.2 q
          refine wp_iload_n (i := 2) dX11_as_41 rfl rfl ?_
          refine wp_iconst (v := nI 1) dX11_as_42 rfl ?_
          refine wp_icmpne (tgt := 51) dX11_as_43 (by decide) ⟨fun q => ?_, fun q => ?_⟩
          · replace h := h.1 q
            exact wp_mask [true, true, true, true, false] h
          · replace h := h.2 q
            refine wp_iload_n (i := 3) dX11_as_46 rfl rfl ?_
            refine wp_iconst (v := nI 4) dX11_as_47 rfl ?_
            refine wp_icmpeq (tgt := 61) dX11_as_48 (by decide) ⟨fun q => ?_, fun q => ?_⟩
            · replace h := h.1 q
              refine wp_iconst (v := nI 1) dX11_as_61 rfl ?_
              refine wp_goto (tgt := 66) dX11_as_62 (by decide) ?_
              refine wp_istore (i := 4) (Lo' := [some (.ref 0), some (.int x1), some (.int x2), some (.int y8), some (.int (nI 1))]) dX11_as_66 (by decide) rfl rfl ?_
              refine wp_iload (i := 4) dX11_as_68 rfl ?_
              refine wp_ifeq (tgt := 82) dX11_as_70 (by decide) ⟨fun q => ?_, fun q => ?_⟩
              · replace h := h.1 q
                refine wp_aload_n (i := 0) dX11_as_82 rfl rfl ?_
                refine wp_ldc lc_X11_98 dX11_as_83 ?_
                refine wp_callVI (vs := [.int (-1000000005 : Int32)]) (rest := []) dX11_as_85 mV_X11_error lm_X11_86 hR_0 rfl rfl rfl (Nat.le_of_ble_eq_true rfl) (CallI.mono h (fun y18 σ17 h => ?_))
                exact wp_ireturn dX11_as_88 rfl ⟨_, rfl, h⟩
              · replace h := h.2 q
                refine wp_aload_n (i := 0) dX11_as_73 rfl rfl ?_
                refine wp_iload_n (i := 1) dX11_as_74 rfl rfl ?_
                refine wp_iconst (v := nI 1) dX11_as_75 rfl ?_
                refine wp_callVI (vs := [.int x1, .int (nI 1)]) (rest := []) dX11_as_76 mV_X11_of lm_X11_65 hR_0 rfl rfl rfl (Nat.le_of_ble_eq_true rfl) (CallI.mono h (fun y20 σ19 h => ?_))
                refine wp_goto (tgt := 88) dX11_as_79 (by decide) ?_
                exact wp_ireturn dX11_as_88 rfl ⟨_, rfl, h⟩
            · replace h := h.2 q
              exact wp_mask [true, true, true, true, false] h
    · replace h := h.2 q
      refine wp_aload_n (i := 0) dX11_as_18 rfl rfl ?_
      refine wp_ldc lc_X11_85 dX11_as_19 ?_
      refine wp_callVI (vs := [.int (-1000000001 : Int32)]) (rest := []) dX11_as_21 mV_X11_error lm_X11_86 hR_0 rfl rfl rfl (Nat.le_of_ble_eq_true rfl) (CallI.mono h (fun y22 σ21 h => ?_))
      exact wp_ireturn dX11_as_24 rfl ⟨_, rfl, h⟩
set_option maxRecDepth 20000 in
set_option maxHeartbeats 2000000 in
theorem vc_Md_change {E : KE} {d : Nat} {x1 : Int32} {x2 : Int32} {x3 : Int32} {σ : Sg} {K : Int32 → Sg → Prop} (h : CallI E shR d mX11_isPerson [.ref 0, .int x1] σ (fun y2 σ1 => (y2 = 0 → CallI E shR d mX11_error [.ref 0, .int (-1000000001 : Int32)] σ1 (fun y4 σ3 => K y4 σ3)) ∧ (¬ y2 = 0 → CallI E shR d mX11_in [.int x2, .int (nI 0), .int (nI 1)] σ1 (fun y6 σ5 => (y6 = 0 → CallI E shR d mX11_error [.ref 0, .int (-1000000001 : Int32)] σ5 (fun y8 σ7 => K y8 σ7)) ∧ (¬ y6 = 0 → CallI E shR d mX11_in [.int x3, .int (nI 0), .int (nI 9999)] σ5 (fun y10 σ9 => (y10 = 0 → CallI E shR d mX11_error [.ref 0, .int (-1000000001 : Int32)] σ9 (fun y12 σ11 => K y12 σ11)) ∧ (¬ y10 = 0 → CallI E shR d mX11_becomes [.ref 0, .int ((((nI 10) + ((nI 32) * x1)) + (nI 2)) + x2), .int x3] σ9 (fun y14 σ13 => K y14 σ13)))))))) : CallI E shR (d + 1) mX11_change [.ref 0, .int x1, .int x2, .int x3] σ K := by
  refine wp_enter (Lo := [some (.ref 0), some (.int x1), some (.int x2), some (.int x3)]) mp_X11_change (Nat.le_of_ble_eq_true rfl) rfl ?_
  refine wp_aload_n (i := 0) dX11_change_0 rfl rfl ?_
  refine wp_iload_n (i := 1) dX11_change_1 rfl rfl ?_
  refine wp_callVI (vs := [.int x1]) (rest := []) dX11_change_2 mV_X11_isPerson lm_X11_57 hR_0 rfl rfl rfl (Nat.le_of_ble_eq_true rfl) (CallI.mono h (fun y2 σ1 h => ?_))
  refine wp_ifeq (tgt := 47) dX11_change_5 (by decide) ⟨fun q => ?_, fun q => ?_⟩
  · replace h := h.1 q
    refine wp_aload_n (i := 0) dX11_change_47 rfl rfl ?_
    refine wp_ldc lc_X11_85 dX11_change_48 ?_
    refine wp_callVI (vs := [.int (-1000000001 : Int32)]) (rest := []) dX11_change_50 mV_X11_error lm_X11_86 hR_0 rfl rfl rfl (Nat.le_of_ble_eq_true rfl) (CallI.mono h (fun y4 σ3 h => ?_))
    exact wp_ireturn dX11_change_53 rfl ⟨_, rfl, h⟩
  · replace h := h.2 q
    refine wp_iload_n (i := 2) dX11_change_8 rfl rfl ?_
    refine wp_iconst (v := nI 0) dX11_change_9 rfl ?_
    refine wp_iconst (v := nI 1) dX11_change_10 rfl ?_
    refine wp_callSI (vs := [.int x2, .int (nI 0), .int (nI 1)]) (rest := []) dX11_change_11 mS_X11_in lm_X11_53 rfl rfl (Nat.le_of_ble_eq_true rfl) (CallI.mono h (fun y6 σ5 h => ?_))
    refine wp_ifeq (tgt := 47) dX11_change_14 (by decide) ⟨fun q => ?_, fun q => ?_⟩
    · replace h := h.1 q
      refine wp_aload_n (i := 0) dX11_change_47 rfl rfl ?_
      refine wp_ldc lc_X11_85 dX11_change_48 ?_
      refine wp_callVI (vs := [.int (-1000000001 : Int32)]) (rest := []) dX11_change_50 mV_X11_error lm_X11_86 hR_0 rfl rfl rfl (Nat.le_of_ble_eq_true rfl) (CallI.mono h (fun y8 σ7 h => ?_))
      exact wp_ireturn dX11_change_53 rfl ⟨_, rfl, h⟩
    · replace h := h.2 q
      refine wp_iload_n (i := 3) dX11_change_17 rfl rfl ?_
      refine wp_iconst (v := nI 0) dX11_change_18 rfl ?_
      refine wp_sipush (v := nI 9999) dX11_change_19 (by decide) ?_
      refine wp_callSI (vs := [.int x3, .int (nI 0), .int (nI 9999)]) (rest := []) dX11_change_22 mS_X11_in lm_X11_53 rfl rfl (Nat.le_of_ble_eq_true rfl) (CallI.mono h (fun y10 σ9 h => ?_))
      refine wp_ifeq (tgt := 47) dX11_change_25 (by decide) ⟨fun q => ?_, fun q => ?_⟩
      · replace h := h.1 q
        refine wp_aload_n (i := 0) dX11_change_47 rfl rfl ?_
        refine wp_ldc lc_X11_85 dX11_change_48 ?_
        refine wp_callVI (vs := [.int (-1000000001 : Int32)]) (rest := []) dX11_change_50 mV_X11_error lm_X11_86 hR_0 rfl rfl rfl (Nat.le_of_ble_eq_true rfl) (CallI.mono h (fun y12 σ11 h => ?_))
        exact wp_ireturn dX11_change_53 rfl ⟨_, rfl, h⟩
      · replace h := h.2 q
        refine wp_aload_n (i := 0) dX11_change_28 rfl rfl ?_
        refine wp_bipush (v := nI 10) dX11_change_29 (by decide) ?_
        refine wp_bipush (v := nI 32) dX11_change_31 (by decide) ?_
        refine wp_iload_n (i := 1) dX11_change_33 rfl rfl ?_
        refine wp_imul dX11_change_34 ?_
        refine wp_iadd dX11_change_35 ?_
        refine wp_iconst (v := nI 2) dX11_change_36 rfl ?_
        refine wp_iadd dX11_change_37 ?_
        refine wp_iload_n (i := 2) dX11_change_38 rfl rfl ?_
        refine wp_iadd dX11_change_39 ?_
        refine wp_iload_n (i := 3) dX11_change_40 rfl rfl ?_
        refine wp_callVI (vs := [.int ((((nI 10) + ((nI 32) * x1)) + (nI 2)) + x2), .int x3]) (rest := []) dX11_change_41 mV_X11_becomes lm_X11_95 hR_0 rfl rfl rfl (Nat.le_of_ble_eq_true rfl) (CallI.mono h (fun y14 σ13 h => ?_))
        refine wp_goto (tgt := 53) dX11_change_44 (by decide) ?_
        exact wp_ireturn dX11_change_53 rfl ⟨_, rfl, h⟩
set_option maxRecDepth 20000 in
set_option maxHeartbeats 2000000 in
theorem vc_Md_has {E : KE} {d : Nat} {x1 : Int32} {x2 : Int32} {σ : Sg} {K : Int32 → Sg → Prop} (h : CallI E shR d mX11_isPerson [.ref 0, .int x1] σ (fun y2 σ1 => (y2 = 0 → CallI E shR d mX11_error [.ref 0, .int (-1000000001 : Int32)] σ1 (fun y4 σ3 => K y4 σ3)) ∧ (¬ y2 = 0 → CallI E shR d mX11_isDay [.int x2] σ1 (fun y6 σ5 => (y6 = 0 → CallI E shR d mX11_error [.ref 0, .int (-1000000001 : Int32)] σ5 (fun y8 σ7 => K y8 σ7)) ∧ (¬ y6 = 0 → CallI E shR d mX11_of [.ref 0, .int x1, .int ((nI 4) + x2)] σ5 (fun y10 σ9 => K y10 σ9)))))) : CallI E shR (d + 1) mX11_has [.ref 0, .int x1, .int x2] σ K := by
  refine wp_enter (Lo := [some (.ref 0), some (.int x1), some (.int x2)]) mp_X11_has (Nat.le_of_ble_eq_true rfl) rfl ?_
  refine wp_aload_n (i := 0) dX11_has_0 rfl rfl ?_
  refine wp_iload_n (i := 1) dX11_has_1 rfl rfl ?_
  refine wp_callVI (vs := [.int x1]) (rest := []) dX11_has_2 mV_X11_isPerson lm_X11_57 hR_0 rfl rfl rfl (Nat.le_of_ble_eq_true rfl) (CallI.mono h (fun y2 σ1 h => ?_))
  refine wp_ifeq (tgt := 26) dX11_has_5 (by decide) ⟨fun q => ?_, fun q => ?_⟩
  · replace h := h.1 q
    refine wp_aload_n (i := 0) dX11_has_26 rfl rfl ?_
    refine wp_ldc lc_X11_85 dX11_has_27 ?_
    refine wp_callVI (vs := [.int (-1000000001 : Int32)]) (rest := []) dX11_has_29 mV_X11_error lm_X11_86 hR_0 rfl rfl rfl (Nat.le_of_ble_eq_true rfl) (CallI.mono h (fun y4 σ3 h => ?_))
    exact wp_ireturn dX11_has_32 rfl ⟨_, rfl, h⟩
  · replace h := h.2 q
    refine wp_iload_n (i := 2) dX11_has_8 rfl rfl ?_
    refine wp_callSI (vs := [.int x2]) (rest := []) dX11_has_9 mS_X11_isDay lm_X11_99 rfl rfl (Nat.le_of_ble_eq_true rfl) (CallI.mono h (fun y6 σ5 h => ?_))
    refine wp_ifeq (tgt := 26) dX11_has_12 (by decide) ⟨fun q => ?_, fun q => ?_⟩
    · replace h := h.1 q
      refine wp_aload_n (i := 0) dX11_has_26 rfl rfl ?_
      refine wp_ldc lc_X11_85 dX11_has_27 ?_
      refine wp_callVI (vs := [.int (-1000000001 : Int32)]) (rest := []) dX11_has_29 mV_X11_error lm_X11_86 hR_0 rfl rfl rfl (Nat.le_of_ble_eq_true rfl) (CallI.mono h (fun y8 σ7 h => ?_))
      exact wp_ireturn dX11_has_32 rfl ⟨_, rfl, h⟩
    · replace h := h.2 q
      refine wp_aload_n (i := 0) dX11_has_15 rfl rfl ?_
      refine wp_iload_n (i := 1) dX11_has_16 rfl rfl ?_
      refine wp_iconst (v := nI 4) dX11_has_17 rfl ?_
      refine wp_iload_n (i := 2) dX11_has_18 rfl rfl ?_
      refine wp_iadd dX11_has_19 ?_
      refine wp_callVI (vs := [.int x1, .int ((nI 4) + x2)]) (rest := []) dX11_has_20 mV_X11_of lm_X11_65 hR_0 rfl rfl rfl (Nat.le_of_ble_eq_true rfl) (CallI.mono h (fun y10 σ9 h => ?_))
      refine wp_goto (tgt := 32) dX11_has_23 (by decide) ?_
      exact wp_ireturn dX11_has_32 rfl ⟨_, rfl, h⟩
set_option maxRecDepth 20000 in
set_option maxHeartbeats 2000000 in
theorem vc_Md_give {E : KE} {d : Nat} {x1 : Int32} {x2 : Int32} {x3 : Int32} {σ : Sg} {K : Int32 → Sg → Prop} (h : CallI E shR d mX11_isPerson [.ref 0, .int x1] σ (fun y2 σ1 => (y2 = 0 → CallI E shR d mX11_error [.ref 0, .int (-1000000001 : Int32)] σ1 (fun y4 σ3 => K y4 σ3)) ∧ (¬ y2 = 0 → CallI E shR d mX11_isDay [.int x2] σ1 (fun y6 σ5 => (y6 = 0 → CallI E shR d mX11_error [.ref 0, .int (-1000000001 : Int32)] σ5 (fun y8 σ7 => K y8 σ7)) ∧ (¬ y6 = 0 → CallI E shR d mX11_in [.int x3, .int (nI 0), .int (nI 9)] σ5 (fun y10 σ9 => (y10 = 0 → CallI E shR d mX11_error [.ref 0, .int (-1000000001 : Int32)] σ9 (fun y12 σ11 => K y12 σ11)) ∧ (¬ y10 = 0 → CallI E shR d mX11_becomes [.ref 0, .int ((((nI 10) + ((nI 32) * x1)) + (nI 4)) + x2), .int x3] σ9 (fun y14 σ13 => K y14 σ13)))))))) : CallI E shR (d + 1) mX11_give [.ref 0, .int x1, .int x2, .int x3] σ K := by
  refine wp_enter (Lo := [some (.ref 0), some (.int x1), some (.int x2), some (.int x3)]) mp_X11_give (Nat.le_of_ble_eq_true rfl) rfl ?_
  refine wp_aload_n (i := 0) dX11_give_0 rfl rfl ?_
  refine wp_iload_n (i := 1) dX11_give_1 rfl rfl ?_
  refine wp_callVI (vs := [.int x1]) (rest := []) dX11_give_2 mV_X11_isPerson lm_X11_57 hR_0 rfl rfl rfl (Nat.le_of_ble_eq_true rfl) (CallI.mono h (fun y2 σ1 h => ?_))
  refine wp_ifeq (tgt := 44) dX11_give_5 (by decide) ⟨fun q => ?_, fun q => ?_⟩
  · replace h := h.1 q
    refine wp_aload_n (i := 0) dX11_give_44 rfl rfl ?_
    refine wp_ldc lc_X11_85 dX11_give_45 ?_
    refine wp_callVI (vs := [.int (-1000000001 : Int32)]) (rest := []) dX11_give_47 mV_X11_error lm_X11_86 hR_0 rfl rfl rfl (Nat.le_of_ble_eq_true rfl) (CallI.mono h (fun y4 σ3 h => ?_))
    exact wp_ireturn dX11_give_50 rfl ⟨_, rfl, h⟩
  · replace h := h.2 q
    refine wp_iload_n (i := 2) dX11_give_8 rfl rfl ?_
    refine wp_callSI (vs := [.int x2]) (rest := []) dX11_give_9 mS_X11_isDay lm_X11_99 rfl rfl (Nat.le_of_ble_eq_true rfl) (CallI.mono h (fun y6 σ5 h => ?_))
    refine wp_ifeq (tgt := 44) dX11_give_12 (by decide) ⟨fun q => ?_, fun q => ?_⟩
    · replace h := h.1 q
      refine wp_aload_n (i := 0) dX11_give_44 rfl rfl ?_
      refine wp_ldc lc_X11_85 dX11_give_45 ?_
      refine wp_callVI (vs := [.int (-1000000001 : Int32)]) (rest := []) dX11_give_47 mV_X11_error lm_X11_86 hR_0 rfl rfl rfl (Nat.le_of_ble_eq_true rfl) (CallI.mono h (fun y8 σ7 h => ?_))
      exact wp_ireturn dX11_give_50 rfl ⟨_, rfl, h⟩
    · replace h := h.2 q
      refine wp_iload_n (i := 3) dX11_give_15 rfl rfl ?_
      refine wp_iconst (v := nI 0) dX11_give_16 rfl ?_
      refine wp_bipush (v := nI 9) dX11_give_17 (by decide) ?_
      refine wp_callSI (vs := [.int x3, .int (nI 0), .int (nI 9)]) (rest := []) dX11_give_19 mS_X11_in lm_X11_53 rfl rfl (Nat.le_of_ble_eq_true rfl) (CallI.mono h (fun y10 σ9 h => ?_))
      refine wp_ifeq (tgt := 44) dX11_give_22 (by decide) ⟨fun q => ?_, fun q => ?_⟩
      · replace h := h.1 q
        refine wp_aload_n (i := 0) dX11_give_44 rfl rfl ?_
        refine wp_ldc lc_X11_85 dX11_give_45 ?_
        refine wp_callVI (vs := [.int (-1000000001 : Int32)]) (rest := []) dX11_give_47 mV_X11_error lm_X11_86 hR_0 rfl rfl rfl (Nat.le_of_ble_eq_true rfl) (CallI.mono h (fun y12 σ11 h => ?_))
        exact wp_ireturn dX11_give_50 rfl ⟨_, rfl, h⟩
      · replace h := h.2 q
        refine wp_aload_n (i := 0) dX11_give_25 rfl rfl ?_
        refine wp_bipush (v := nI 10) dX11_give_26 (by decide) ?_
        refine wp_bipush (v := nI 32) dX11_give_28 (by decide) ?_
        refine wp_iload_n (i := 1) dX11_give_30 rfl rfl ?_
        refine wp_imul dX11_give_31 ?_
        refine wp_iadd dX11_give_32 ?_
        refine wp_iconst (v := nI 4) dX11_give_33 rfl ?_
        refine wp_iadd dX11_give_34 ?_
        refine wp_iload_n (i := 2) dX11_give_35 rfl rfl ?_
        refine wp_iadd dX11_give_36 ?_
        refine wp_iload_n (i := 3) dX11_give_37 rfl rfl ?_
        refine wp_callVI (vs := [.int ((((nI 10) + ((nI 32) * x1)) + (nI 4)) + x2), .int x3]) (rest := []) dX11_give_38 mV_X11_becomes lm_X11_95 hR_0 rfl rfl rfl (Nat.le_of_ble_eq_true rfl) (CallI.mono h (fun y14 σ13 h => ?_))
        refine wp_goto (tgt := 50) dX11_give_41 (by decide) ?_
        exact wp_ireturn dX11_give_50 rfl ⟨_, rfl, h⟩
set_option maxRecDepth 20000 in
set_option maxHeartbeats 2000000 in
theorem vb_Md_works_38 {E : KE} {d : Nat} {x1 : Int32} {x2 : Int32} {x3 : Int32} {x4 : Int32} {σ : Sg} {K : Int32 → Sg → Prop} (h : (¬ x4 = (nI 1) → vp_in ((x1 + (nI 61)) + x3) 552 ∧ (vp_in (σ 1 ((x1 + (nI 61)) + x3).toNatClampNeg) 3 ∧ (vp_in x2 60 ∧ (∀ σ1, σ1 = k_put σ 11 (upd (σ 11) x2.toNatClampNeg (σ 10 (σ 1 ((x1 + (nI 61)) + x3).toNatClampNeg).toNatClampNeg)) → WP E shR mX11_works (d + 1) 4 [some (.ref 0), some (.int x1), some (.int (x2 + nI 1)), some (.int (x3 + nI 1)), none] [] σ1 (k_qi K))))) ∧ (x4 = (nI 1) → vp_in ((x1 + (nI 61)) + x3) 552 ∧ (vp_in x2 60 ∧ (∀ σ3, σ3 = k_put σ 11 (upd (σ 11) x2.toNatClampNeg (σ 1 ((x1 + (nI 61)) + x3).toNatClampNeg)) → WP E shR mX11_works (d + 1) 4 [some (.ref 0), some (.int x1), some (.int (x2 + nI 1)), some (.int (x3 + nI 1)), none] [] σ3 (k_qi K))))) : WP E shR mX11_works (d + 1) 38 [some (.ref 0), some (.int x1), some (.int x2), some (.int x3), some (.int x4)] [] σ (k_qi K) := by
  refine wp_aload_n (i := 0) dX11_works_38 rfl rfl ?_
  refine wp_getR (t := 11) dX11_works_39 lf_X11_40 hR_0 rfl ?_
  refine wp_iload_n (i := 2) dX11_works_42 rfl rfl ?_
  refine wp_iload (i := 4) dX11_works_43 rfl ?_
  refine wp_iconst (v := nI 1) dX11_works_45 rfl ?_
  refine wp_icmpne (tgt := 63) dX11_works_46 (by decide) ⟨fun q => ?_, fun q => ?_⟩
  · replace h := h.1 q
    refine wp_aload_n (i := 0) dX11_works_63 rfl rfl ?_
    refine wp_getR (t := 10) dX11_works_64 lf_X11_37 hR_0 rfl ?_
    refine wp_aload_n (i := 0) dX11_works_67 rfl rfl ?_
    refine wp_getR (t := 1) dX11_works_68 lf_X11_9 hR_0 rfl ?_
    refine wp_iload_n (i := 1) dX11_works_71 rfl rfl ?_
    refine wp_bipush (v := nI 61) dX11_works_72 (by decide) ?_
    refine wp_iadd dX11_works_74 ?_
    refine wp_iload_n (i := 3) dX11_works_75 rfl rfl ?_
    refine wp_iadd dX11_works_76 ?_
    refine wp_iald dX11_works_77 hR_1 ⟨h.1, ?_⟩
    replace h := h.2
    refine wp_iald dX11_works_78 hR_10 ⟨h.1, ?_⟩
    replace h := h.2
    refine wp_iast dX11_works_79 hR_11 ⟨h.1, ?_⟩
    refine wp_nm (fun σ1 e2 => ?_)
    replace h := h.2 σ1 e2
    refine wp_iinc (i := 2) (v := x2 + nI 1) (Lo' := [some (.ref 0), some (.int x1), some (.int (x2 + nI 1)), some (.int x3), some (.int x4)]) dX11_works_80 rfl (by rfl) (by decide) rfl rfl ?_
    refine wp_goto (tgt := 149) dX11_works_83 (by decide) ?_
    refine wp_iinc (i := 3) (v := x3 + nI 1) (Lo' := [some (.ref 0), some (.int x1), some (.int (x2 + nI 1)), some (.int (x3 + nI 1)), some (.int x4)]) dX11_works_149 rfl (by rfl) (by decide) rfl rfl ?_
    refine wp_goto (tgt := 4) dX11_works_152 (by decide) ?_
    exact wp_mask [true, true, true, true, false] h
  · replace h := h.2 q
    refine wp_aload_n (i := 0) dX11_works_49 rfl rfl ?_
    refine wp_getR (t := 1) dX11_works_50 lf_X11_9 hR_0 rfl ?_
    refine wp_iload_n (i := 1) dX11_works_53 rfl rfl ?_
    refine wp_bipush (v := nI 61) dX11_works_54 (by decide) ?_
    refine wp_iadd dX11_works_56 ?_
    refine wp_iload_n (i := 3) dX11_works_57 rfl rfl ?_
    refine wp_iadd dX11_works_58 ?_
    refine wp_iald dX11_works_59 hR_1 ⟨h.1, ?_⟩
    replace h := h.2
    refine wp_goto (tgt := 79) dX11_works_60 (by decide) ?_
    refine wp_iast dX11_works_79 hR_11 ⟨h.1, ?_⟩
    refine wp_nm (fun σ3 e4 => ?_)
    replace h := h.2 σ3 e4
    refine wp_iinc (i := 2) (v := x2 + nI 1) (Lo' := [some (.ref 0), some (.int x1), some (.int (x2 + nI 1)), some (.int x3), some (.int x4)]) dX11_works_80 rfl (by rfl) (by decide) rfl rfl ?_
    refine wp_goto (tgt := 149) dX11_works_83 (by decide) ?_
    refine wp_iinc (i := 3) (v := x3 + nI 1) (Lo' := [some (.ref 0), some (.int x1), some (.int (x2 + nI 1)), some (.int (x3 + nI 1)), some (.int x4)]) dX11_works_149 rfl (by rfl) (by decide) rfl rfl ?_
    refine wp_goto (tgt := 4) dX11_works_152 (by decide) ?_
    exact wp_mask [true, true, true, true, false] h
set_option maxRecDepth 20000 in
set_option maxHeartbeats 2000000 in
theorem vb_Md_works_4 {E : KE} {d : Nat} {x1 : Int32} {x2 : Int32} {x3 : Int32} {σ : Sg} {K : Int32 → Sg → Prop} (h : vp_in x1 552 ∧ (((σ 1 x1.toNatClampNeg) ≤ x3 → vp_in (nI 0) 60 ∧ (K (σ 11 (nI 0).toNatClampNeg) σ)) ∧ (¬ (σ 1 x1.toNatClampNeg) ≤ x3 → vp_in ((x1 + (nI 1)) + x3) 552 ∧ (((σ 1 ((x1 + (nI 1)) + x3).toNatClampNeg) = (nI 1) → WP E shR mX11_works (d + 1) 38 [some (.ref 0), some (.int x1), some (.int x2), some (.int x3), some (.int (σ 1 ((x1 + (nI 1)) + x3).toNatClampNeg))] [] σ (k_qi K)) ∧ (¬ (σ 1 ((x1 + (nI 1)) + x3).toNatClampNeg) = (nI 1) → (¬ (σ 1 ((x1 + (nI 1)) + x3).toNatClampNeg) = (nI 2) → (¬ (σ 1 ((x1 + (nI 1)) + x3).toNatClampNeg) = (nI 3) → vp_in ((x2 + (-1 : Int32)) - (nI 1)) 60 ∧ (vp_in (x2 + (-1 : Int32)) 60 ∧ (CallI E shR d mX11_twoOf [.int (σ 1 ((x1 + (nI 1)) + x3).toNatClampNeg), .int (σ 11 ((x2 + (-1 : Int32)) - (nI 1)).toNatClampNeg), .int (σ 11 (x2 + (-1 : Int32)).toNatClampNeg)] σ (fun y2 σ1 => vp_in ((x2 + (-1 : Int32)) - (nI 1)) 60 ∧ (∀ σ3, σ3 = k_put σ1 11 (upd (σ1 11) ((x2 + (-1 : Int32)) - (nI 1)).toNatClampNeg y2) → WP E shR mX11_works (d + 1) 4 [some (.ref 0), some (.int x1), some (.int (x2 + (-1 : Int32))), some (.int (x3 + nI 1)), none] [] σ3 (k_qi K)))))) ∧ ((σ 1 ((x1 + (nI 1)) + x3).toNatClampNeg) = (nI 3) → vp_in (x2 - (nI 1)) 60 ∧ ((¬ (σ 11 (x2 - (nI 1)).toNatClampNeg) = 0 → vp_in (x2 - (nI 1)) 60 ∧ (∀ σ5, σ5 = k_put σ 11 (upd (σ 11) (x2 - (nI 1)).toNatClampNeg (nI 0)) → WP E shR mX11_works (d + 1) 4 [some (.ref 0), some (.int x1), some (.int x2), some (.int (x3 + nI 1)), none] [] σ5 (k_qi K))) ∧ ((σ 11 (x2 - (nI 1)).toNatClampNeg) = 0 → vp_in (x2 - (nI 1)) 60 ∧ (∀ σ7, σ7 = k_put σ 11 (upd (σ 11) (x2 - (nI 1)).toNatClampNeg (nI 1)) → WP E shR mX11_works (d + 1) 4 [some (.ref 0), some (.int x1), some (.int x2), some (.int (x3 + nI 1)), none] [] σ7 (k_qi K)))))) ∧ ((σ 1 ((x1 + (nI 1)) + x3).toNatClampNeg) = (nI 2) → WP E shR mX11_works (d + 1) 38 [some (.ref 0), some (.int x1), some (.int x2), some (.int x3), some (.int (σ 1 ((x1 + (nI 1)) + x3).toNatClampNeg))] [] σ (k_qi K))))))) : WP E shR mX11_works (d + 1) 4 [some (.ref 0), some (.int x1), some (.int x2), some (.int x3), none] [] σ (k_qi K) := by
  refine wp_iload_n (i := 3) dX11_works_4 rfl rfl ?_
  refine wp_aload_n (i := 0) dX11_works_5 rfl rfl ?_
  refine wp_getR (t := 1) dX11_works_6 lf_X11_9 hR_0 rfl ?_
  refine wp_iload_n (i := 1) dX11_works_9 rfl rfl ?_
  refine wp_iald dX11_works_10 hR_1 ⟨h.1, ?_⟩
  replace h := h.2
  refine wp_icmpge (tgt := 155) dX11_works_11 (by decide) ⟨fun q => ?_, fun q => ?_⟩
  · replace h := h.1 q
    refine wp_aload_n (i := 0) dX11_works_155 rfl rfl ?_
    refine wp_getR (t := 11) dX11_works_156 lf_X11_40 hR_0 rfl ?_
    refine wp_iconst (v := nI 0) dX11_works_159 rfl ?_
    refine wp_iald dX11_works_160 hR_11 ⟨h.1, ?_⟩
    replace h := h.2
    exact wp_ireturn dX11_works_161 rfl ⟨_, rfl, h⟩
  · replace h := h.2 q
    refine wp_aload_n (i := 0) dX11_works_14 rfl rfl ?_
    refine wp_getR (t := 1) dX11_works_15 lf_X11_9 hR_0 rfl ?_
    refine wp_iload_n (i := 1) dX11_works_18 rfl rfl ?_
    refine wp_iconst (v := nI 1) dX11_works_19 rfl ?_
    refine wp_iadd dX11_works_20 ?_
    refine wp_iload_n (i := 3) dX11_works_21 rfl rfl ?_
    refine wp_iadd dX11_works_22 ?_
    refine wp_iald dX11_works_23 hR_1 ⟨h.1, ?_⟩
    replace h := h.2
    refine wp_istore (i := 4) (Lo' := [some (.ref 0), some (.int x1), some (.int x2), some (.int x3), some (.int (σ 1 ((x1 + (nI 1)) + x3).toNatClampNeg))]) dX11_works_24 (by decide) rfl rfl ?_
    refine wp_iload (i := 4) dX11_works_26 rfl ?_
    refine wp_iconst (v := nI 1) dX11_works_28 rfl ?_
    refine wp_icmpeq (tgt := 38) dX11_works_29 (by decide) ⟨fun q => ?_, fun q => ?_⟩
    · replace h := h.1 q
      exact wp_mask [true, true, true, true, true] h
    · replace h := h.2 q
      refine wp_iload (i := 4) dX11_works_32 rfl ?_
      refine wp_iconst (v := nI 2) dX11_works_34 rfl ?_
      refine wp_icmpne (tgt := 86) dX11_works_35 (by decide) ⟨fun q => ?_, fun q => ?_⟩
      · replace h := h.1 q
        refine wp_iload (i := 4) dX11_works_86 rfl ?_
        refine wp_iconst (v := nI 3) dX11_works_88 rfl ?_
        refine wp_icmpne (tgt := 119) dX11_works_89 (by decide) ⟨fun q => ?_, fun q => ?_⟩
        · replace h := h.1 q
          refine wp_iinc (i := 2) (v := x2 + (-1 : Int32)) (Lo' := [some (.ref 0), some (.int x1), some (.int (x2 + (-1 : Int32))), some (.int x3), some (.int (σ 1 ((x1 + (nI 1)) + x3).toNatClampNeg))]) dX11_works_119 rfl (by rfl) (by decide) rfl rfl ?_
          refine wp_aload_n (i := 0) dX11_works_122 rfl rfl ?_
          refine wp_getR (t := 11) dX11_works_123 lf_X11_40 hR_0 rfl ?_
          refine wp_iload_n (i := 2) dX11_works_126 rfl rfl ?_
          refine wp_iconst (v := nI 1) dX11_works_127 rfl ?_
          refine wp_isub dX11_works_128 ?_
          refine wp_iload (i := 4) dX11_works_129 rfl ?_
          refine wp_aload_n (i := 0) dX11_works_131 rfl rfl ?_
          refine wp_getR (t := 11) dX11_works_132 lf_X11_40 hR_0 rfl ?_
          refine wp_iload_n (i := 2) dX11_works_135 rfl rfl ?_
          refine wp_iconst (v := nI 1) dX11_works_136 rfl ?_
          refine wp_isub dX11_works_137 ?_
          refine wp_iald dX11_works_138 hR_11 ⟨h.1, ?_⟩
          replace h := h.2
          refine wp_aload_n (i := 0) dX11_works_139 rfl rfl ?_
          refine wp_getR (t := 11) dX11_works_140 lf_X11_40 hR_0 rfl ?_
          refine wp_iload_n (i := 2) dX11_works_143 rfl rfl ?_
          refine wp_iald dX11_works_144 hR_11 ⟨h.1, ?_⟩
          replace h := h.2
          refine wp_callSI (vs := [.int (σ 1 ((x1 + (nI 1)) + x3).toNatClampNeg), .int (σ 11 ((x2 + (-1 : Int32)) - (nI 1)).toNatClampNeg), .int (σ 11 (x2 + (-1 : Int32)).toNatClampNeg)]) (rest := [.int ((x2 + (-1 : Int32)) - (nI 1)), .ref 11]) dX11_works_145 mS_X11_twoOf lm_X11_180 rfl rfl (Nat.le_of_ble_eq_true rfl) (CallI.mono h (fun y2 σ1 h => ?_))
          refine wp_iast dX11_works_148 hR_11 ⟨h.1, ?_⟩
          refine wp_nm (fun σ3 e4 => ?_)
          replace h := h.2 σ3 e4
          refine wp_iinc (i := 3) (v := x3 + nI 1) (Lo' := [some (.ref 0), some (.int x1), some (.int (x2 + (-1 : Int32))), some (.int (x3 + nI 1)), some (.int (σ 1 ((x1 + (nI 1)) + x3).toNatClampNeg))]) dX11_works_149 rfl (by rfl) (by decide) rfl rfl ?_
          refine wp_goto (tgt := 4) dX11_works_152 (by decide) ?_
          exact wp_mask [true, true, true, true, false] h
        · replace h := h.2 q
          refine wp_aload_n (i := 0) dX11_works_92 rfl rfl ?_
          refine wp_getR (t := 11) dX11_works_93 lf_X11_40 hR_0 rfl ?_
          refine wp_iload_n (i := 2) dX11_works_96 rfl rfl ?_
          refine wp_iconst (v := nI 1) dX11_works_97 rfl ?_
          refine wp_isub dX11_works_98 ?_
          refine wp_aload_n (i := 0) dX11_works_99 rfl rfl ?_
          refine wp_getR (t := 11) dX11_works_100 lf_X11_40 hR_0 rfl ?_
          refine wp_iload_n (i := 2) dX11_works_103 rfl rfl ?_
          refine wp_iconst (v := nI 1) dX11_works_104 rfl ?_
          refine wp_isub dX11_works_105 ?_
          refine wp_iald dX11_works_106 hR_11 ⟨h.1, ?_⟩
          replace h := h.2
          refine wp_ifne (tgt := 114) dX11_works_107 (by decide) ⟨fun q => ?_, fun q => ?_⟩
          · replace h := h.1 q
            refine wp_iconst (v := nI 0) dX11_works_114 rfl ?_
            refine wp_iast dX11_works_115 hR_11 ⟨h.1, ?_⟩
            refine wp_nm (fun σ5 e6 => ?_)
            replace h := h.2 σ5 e6
            refine wp_goto (tgt := 149) dX11_works_116 (by decide) ?_
            refine wp_iinc (i := 3) (v := x3 + nI 1) (Lo' := [some (.ref 0), some (.int x1), some (.int x2), some (.int (x3 + nI 1)), some (.int (σ 1 ((x1 + (nI 1)) + x3).toNatClampNeg))]) dX11_works_149 rfl (by rfl) (by decide) rfl rfl ?_
            refine wp_goto (tgt := 4) dX11_works_152 (by decide) ?_
            exact wp_mask [true, true, true, true, false] h
          · replace h := h.2 q
            refine wp_iconst (v := nI 1) dX11_works_110 rfl ?_
            refine wp_goto (tgt := 115) dX11_works_111 (by decide) ?_
            refine wp_iast dX11_works_115 hR_11 ⟨h.1, ?_⟩
            refine wp_nm (fun σ7 e8 => ?_)
            replace h := h.2 σ7 e8
            refine wp_goto (tgt := 149) dX11_works_116 (by decide) ?_
            refine wp_iinc (i := 3) (v := x3 + nI 1) (Lo' := [some (.ref 0), some (.int x1), some (.int x2), some (.int (x3 + nI 1)), some (.int (σ 1 ((x1 + (nI 1)) + x3).toNatClampNeg))]) dX11_works_149 rfl (by rfl) (by decide) rfl rfl ?_
            refine wp_goto (tgt := 4) dX11_works_152 (by decide) ?_
            exact wp_mask [true, true, true, true, false] h
      · replace h := h.2 q
        exact wp_mask [true, true, true, true, true] h
set_option maxRecDepth 20000 in
set_option maxHeartbeats 2000000 in
theorem vc_Md_works {E : KE} {d : Nat} {x1 : Int32} {σ : Sg} {K : Int32 → Sg → Prop} (h : WP E shR mX11_works (d + 1) 4 [some (.ref 0), some (.int x1), some (.int (nI 0)), some (.int (nI 0)), none] [] σ (k_qi K)) : CallI E shR (d + 1) mX11_works [.ref 0, .int x1] σ K := by
  refine wp_enter (Lo := [some (.ref 0), some (.int x1), none, none, none]) mp_X11_works (Nat.le_of_ble_eq_true rfl) rfl ?_
  refine wp_iconst (v := nI 0) dX11_works_0 rfl ?_
  refine wp_istore_n (i := 2) (Lo' := [some (.ref 0), some (.int x1), some (.int (nI 0)), none, none]) dX11_works_1 rfl (by decide) rfl rfl ?_
  refine wp_iconst (v := nI 0) dX11_works_2 rfl ?_
  refine wp_istore_n (i := 3) (Lo' := [some (.ref 0), some (.int x1), some (.int (nI 0)), some (.int (nI 0)), none]) dX11_works_3 rfl (by decide) rfl rfl ?_
  exact wp_mask [true, true, true, true, false] h
set_option maxRecDepth 20000 in
set_option maxHeartbeats 2000000 in
theorem vc_Md_gives {E : KE} {d : Nat} {x1 : Int32} {x2 : Int32} {x3 : Int32} {x4 : Int32} {σ : Sg} {K : Int32 → Sg → Prop} (h : vp_in (nI 0) 3 ∧ (∀ σ1, σ1 = k_put σ 10 (upd (σ 10) (nI 0).toNatClampNeg x2) → vp_in (nI 1) 3 ∧ (∀ σ3, σ3 = k_put σ1 10 (upd (σ1 10) (nI 1).toNatClampNeg x3) → vp_in (nI 2) 3 ∧ (∀ σ5, σ5 = k_put σ3 10 (upd (σ3 10) (nI 2).toNatClampNeg x4) → vp_in ((nI 310) + ((nI 121) * x1)) 552 ∧ (((σ5 1 ((nI 310) + ((nI 121) * x1)).toNatClampNeg) ≤ 0 → (¬ x1 = (nI 1) → (x3 ≤ (nI 4) → (¬ x1 = 0 → CallI E shR d mX11_held [.int (nI 10), .int (nI 0), .int (nI 99)] σ5 (fun y8 σ7 => K y8 σ7)) ∧ (x1 = 0 → CallI E shR d mX11_held [.int (nI 10), .int (nI 0), .int (nI 999)] σ5 (fun y10 σ9 => K y10 σ9))) ∧ (¬ x3 ≤ (nI 4) → (¬ x1 = 0 → CallI E shR d mX11_held [.int (nI 15), .int (nI 0), .int (nI 99)] σ5 (fun y12 σ11 => K y12 σ11)) ∧ (x1 = 0 → CallI E shR d mX11_held [.int (nI 15), .int (nI 0), .int (nI 999)] σ5 (fun y14 σ13 => K y14 σ13)))) ∧ (x1 = (nI 1) → (¬ x1 = 0 → CallI E shR d mX11_held [.int (nI 0), .int (nI 0), .int (nI 99)] σ5 (fun y16 σ15 => K y16 σ15)) ∧ (x1 = 0 → CallI E shR d mX11_held [.int (nI 0), .int (nI 0), .int (nI 999)] σ5 (fun y18 σ17 => K y18 σ17)))) ∧ (¬ (σ5 1 ((nI 310) + ((nI 121) * x1)).toNatClampNeg) ≤ 0 → CallI E shR d mX11_works [.ref 0, .int ((nI 310) + ((nI 121) * x1))] σ5 (fun y20 σ19 => (¬ x1 = 0 → CallI E shR d mX11_held [.int y20, .int (nI 0), .int (nI 99)] σ19 (fun y22 σ21 => K y22 σ21)) ∧ (x1 = 0 → CallI E shR d mX11_held [.int y20, .int (nI 0), .int (nI 999)] σ19 (fun y24 σ23 => K y24 σ23))))))))) : CallI E shR (d + 1) mX11_gives [.ref 0, .int x1, .int x2, .int x3, .int x4] σ K := by
  refine wp_enter (Lo := [some (.ref 0), some (.int x1), some (.int x2), some (.int x3), some (.int x4), none, none]) mp_X11_gives (Nat.le_of_ble_eq_true rfl) rfl ?_
  refine wp_sipush (v := nI 310) dX11_gives_0 (by decide) ?_
  refine wp_bipush (v := nI 121) dX11_gives_3 (by decide) ?_
  refine wp_iload_n (i := 1) dX11_gives_5 rfl rfl ?_
  refine wp_imul dX11_gives_6 ?_
  refine wp_iadd dX11_gives_7 ?_
  refine wp_istore (i := 5) (Lo' := [some (.ref 0), some (.int x1), some (.int x2), some (.int x3), some (.int x4), some (.int ((nI 310) + ((nI 121) * x1))), none]) dX11_gives_8 (by decide) rfl rfl ?_
  refine wp_aload_n (i := 0) dX11_gives_10 rfl rfl ?_
  refine wp_getR (t := 10) dX11_gives_11 lf_X11_37 hR_0 rfl ?_
  refine wp_iconst (v := nI 0) dX11_gives_14 rfl ?_
  refine wp_iload_n (i := 2) dX11_gives_15 rfl rfl ?_
  refine wp_iast dX11_gives_16 hR_10 ⟨h.1, ?_⟩
  refine wp_nm (fun σ1 e2 => ?_)
  replace h := h.2 σ1 e2
  refine wp_aload_n (i := 0) dX11_gives_17 rfl rfl ?_
  refine wp_getR (t := 10) dX11_gives_18 lf_X11_37 hR_0 rfl ?_
  refine wp_iconst (v := nI 1) dX11_gives_21 rfl ?_
  refine wp_iload_n (i := 3) dX11_gives_22 rfl rfl ?_
  refine wp_iast dX11_gives_23 hR_10 ⟨h.1, ?_⟩
  refine wp_nm (fun σ3 e4 => ?_)
  replace h := h.2 σ3 e4
  refine wp_aload_n (i := 0) dX11_gives_24 rfl rfl ?_
  refine wp_getR (t := 10) dX11_gives_25 lf_X11_37 hR_0 rfl ?_
  refine wp_iconst (v := nI 2) dX11_gives_28 rfl ?_
  refine wp_iload (i := 4) dX11_gives_29 rfl ?_
  refine wp_iast dX11_gives_31 hR_10 ⟨h.1, ?_⟩
  refine wp_nm (fun σ5 e6 => ?_)
  replace h := h.2 σ5 e6
  refine wp_aload_n (i := 0) dX11_gives_32 rfl rfl ?_
  refine wp_getR (t := 1) dX11_gives_33 lf_X11_9 hR_0 rfl ?_
  refine wp_iload (i := 5) dX11_gives_36 rfl ?_
  refine wp_iald dX11_gives_38 hR_1 ⟨h.1, ?_⟩
  replace h := h.2
  refine wp_ifle (tgt := 51) dX11_gives_39 (by decide) ⟨fun q => ?_, fun q => ?_⟩
  · replace h := h.1 q
    refine wp_iload_n (i := 1) dX11_gives_51 rfl rfl ?_
    refine wp_iconst (v := nI 1) dX11_gives_52 rfl ?_
    refine wp_icmpne (tgt := 60) dX11_gives_53 (by decide) ⟨fun q => ?_, fun q => ?_⟩
    · replace h := h.1 q
      refine wp_iload_n (i := 3) dX11_gives_60 rfl rfl ?_
      refine wp_iconst (v := nI 4) dX11_gives_61 rfl ?_
      refine wp_icmple (tgt := 70) dX11_gives_62 (by decide) ⟨fun q => ?_, fun q => ?_⟩
      · replace h := h.1 q
        refine wp_bipush (v := nI 10) dX11_gives_70 (by decide) ?_
        refine wp_istore (i := 6) (Lo' := [some (.ref 0), some (.int x1), some (.int x2), some (.int x3), some (.int x4), some (.int ((nI 310) + ((nI 121) * x1))), some (.int (nI 10))]) dX11_gives_72 (by decide) rfl rfl ?_
        refine wp_iload_n (i := 1) dX11_gives_74 rfl rfl ?_
        refine wp_ifne (tgt := 90) dX11_gives_75 (by decide) ⟨fun q => ?_, fun q => ?_⟩
        · replace h := h.1 q
          refine wp_iload (i := 6) dX11_gives_90 rfl ?_
          refine wp_iconst (v := nI 0) dX11_gives_92 rfl ?_
          refine wp_bipush (v := nI 99) dX11_gives_93 (by decide) ?_
          refine wp_callSI (vs := [.int (nI 10), .int (nI 0), .int (nI 99)]) (rest := []) dX11_gives_95 mS_X11_held lm_X11_61 rfl rfl (Nat.le_of_ble_eq_true rfl) (CallI.mono h (fun y8 σ7 h => ?_))
          exact wp_ireturn dX11_gives_98 rfl ⟨_, rfl, h⟩
        · replace h := h.2 q
          refine wp_iload (i := 6) dX11_gives_78 rfl ?_
          refine wp_iconst (v := nI 0) dX11_gives_80 rfl ?_
          refine wp_sipush (v := nI 999) dX11_gives_81 (by decide) ?_
          refine wp_callSI (vs := [.int (nI 10), .int (nI 0), .int (nI 999)]) (rest := []) dX11_gives_84 mS_X11_held lm_X11_61 rfl rfl (Nat.le_of_ble_eq_true rfl) (CallI.mono h (fun y10 σ9 h => ?_))
          refine wp_goto (tgt := 98) dX11_gives_87 (by decide) ?_
          exact wp_ireturn dX11_gives_98 rfl ⟨_, rfl, h⟩
      · replace h := h.2 q
        refine wp_bipush (v := nI 15) dX11_gives_65 (by decide) ?_
        refine wp_goto (tgt := 72) dX11_gives_67 (by decide) ?_
        refine wp_istore (i := 6) (Lo' := [some (.ref 0), some (.int x1), some (.int x2), some (.int x3), some (.int x4), some (.int ((nI 310) + ((nI 121) * x1))), some (.int (nI 15))]) dX11_gives_72 (by decide) rfl rfl ?_
        refine wp_iload_n (i := 1) dX11_gives_74 rfl rfl ?_
        refine wp_ifne (tgt := 90) dX11_gives_75 (by decide) ⟨fun q => ?_, fun q => ?_⟩
        · replace h := h.1 q
          refine wp_iload (i := 6) dX11_gives_90 rfl ?_
          refine wp_iconst (v := nI 0) dX11_gives_92 rfl ?_
          refine wp_bipush (v := nI 99) dX11_gives_93 (by decide) ?_
          refine wp_callSI (vs := [.int (nI 15), .int (nI 0), .int (nI 99)]) (rest := []) dX11_gives_95 mS_X11_held lm_X11_61 rfl rfl (Nat.le_of_ble_eq_true rfl) (CallI.mono h (fun y12 σ11 h => ?_))
          exact wp_ireturn dX11_gives_98 rfl ⟨_, rfl, h⟩
        · replace h := h.2 q
          refine wp_iload (i := 6) dX11_gives_78 rfl ?_
          refine wp_iconst (v := nI 0) dX11_gives_80 rfl ?_
          refine wp_sipush (v := nI 999) dX11_gives_81 (by decide) ?_
          refine wp_callSI (vs := [.int (nI 15), .int (nI 0), .int (nI 999)]) (rest := []) dX11_gives_84 mS_X11_held lm_X11_61 rfl rfl (Nat.le_of_ble_eq_true rfl) (CallI.mono h (fun y14 σ13 h => ?_))
          refine wp_goto (tgt := 98) dX11_gives_87 (by decide) ?_
          exact wp_ireturn dX11_gives_98 rfl ⟨_, rfl, h⟩
    · replace h := h.2 q
      refine wp_iconst (v := nI 0) dX11_gives_56 rfl ?_
      refine wp_goto (tgt := 72) dX11_gives_57 (by decide) ?_
      refine wp_istore (i := 6) (Lo' := [some (.ref 0), some (.int x1), some (.int x2), some (.int x3), some (.int x4), some (.int ((nI 310) + ((nI 121) * x1))), some (.int (nI 0))]) dX11_gives_72 (by decide) rfl rfl ?_
      refine wp_iload_n (i := 1) dX11_gives_74 rfl rfl ?_
      refine wp_ifne (tgt := 90) dX11_gives_75 (by decide) ⟨fun q => ?_, fun q => ?_⟩
      · replace h := h.1 q
        refine wp_iload (i := 6) dX11_gives_90 rfl ?_
        refine wp_iconst (v := nI 0) dX11_gives_92 rfl ?_
        refine wp_bipush (v := nI 99) dX11_gives_93 (by decide) ?_
        refine wp_callSI (vs := [.int (nI 0), .int (nI 0), .int (nI 99)]) (rest := []) dX11_gives_95 mS_X11_held lm_X11_61 rfl rfl (Nat.le_of_ble_eq_true rfl) (CallI.mono h (fun y16 σ15 h => ?_))
        exact wp_ireturn dX11_gives_98 rfl ⟨_, rfl, h⟩
      · replace h := h.2 q
        refine wp_iload (i := 6) dX11_gives_78 rfl ?_
        refine wp_iconst (v := nI 0) dX11_gives_80 rfl ?_
        refine wp_sipush (v := nI 999) dX11_gives_81 (by decide) ?_
        refine wp_callSI (vs := [.int (nI 0), .int (nI 0), .int (nI 999)]) (rest := []) dX11_gives_84 mS_X11_held lm_X11_61 rfl rfl (Nat.le_of_ble_eq_true rfl) (CallI.mono h (fun y18 σ17 h => ?_))
        refine wp_goto (tgt := 98) dX11_gives_87 (by decide) ?_
        exact wp_ireturn dX11_gives_98 rfl ⟨_, rfl, h⟩
  · replace h := h.2 q
    refine wp_aload_n (i := 0) dX11_gives_42 rfl rfl ?_
    refine wp_iload (i := 5) dX11_gives_43 rfl ?_
    refine wp_callVI (vs := [.int ((nI 310) + ((nI 121) * x1))]) (rest := []) dX11_gives_45 mV_X11_works lm_X11_183 hR_0 rfl rfl rfl (Nat.le_of_ble_eq_true rfl) (CallI.mono h (fun y20 σ19 h => ?_))
    refine wp_goto (tgt := 72) dX11_gives_48 (by decide) ?_
    refine wp_istore (i := 6) (Lo' := [some (.ref 0), some (.int x1), some (.int x2), some (.int x3), some (.int x4), some (.int ((nI 310) + ((nI 121) * x1))), some (.int y20)]) dX11_gives_72 (by decide) rfl rfl ?_
    refine wp_iload_n (i := 1) dX11_gives_74 rfl rfl ?_
    refine wp_ifne (tgt := 90) dX11_gives_75 (by decide) ⟨fun q => ?_, fun q => ?_⟩
    · replace h := h.1 q
      refine wp_iload (i := 6) dX11_gives_90 rfl ?_
      refine wp_iconst (v := nI 0) dX11_gives_92 rfl ?_
      refine wp_bipush (v := nI 99) dX11_gives_93 (by decide) ?_
      refine wp_callSI (vs := [.int y20, .int (nI 0), .int (nI 99)]) (rest := []) dX11_gives_95 mS_X11_held lm_X11_61 rfl rfl (Nat.le_of_ble_eq_true rfl) (CallI.mono h (fun y22 σ21 h => ?_))
      exact wp_ireturn dX11_gives_98 rfl ⟨_, rfl, h⟩
    · replace h := h.2 q
      refine wp_iload (i := 6) dX11_gives_78 rfl ?_
      refine wp_iconst (v := nI 0) dX11_gives_80 rfl ?_
      refine wp_sipush (v := nI 999) dX11_gives_81 (by decide) ?_
      refine wp_callSI (vs := [.int y20, .int (nI 0), .int (nI 999)]) (rest := []) dX11_gives_84 mS_X11_held lm_X11_61 rfl rfl (Nat.le_of_ble_eq_true rfl) (CallI.mono h (fun y24 σ23 h => ?_))
      refine wp_goto (tgt := 98) dX11_gives_87 (by decide) ?_
      exact wp_ireturn dX11_gives_98 rfl ⟨_, rfl, h⟩
set_option maxRecDepth 20000 in
set_option maxHeartbeats 2000000 in
theorem vc_Md_priceOf {E : KE} {d : Nat} {x1 : Int32} {x2 : Int32} {σ : Sg} {K : Int32 → Sg → Prop} (h : CallI E shR d mX11_of [.ref 0, .int x1, .int ((nI 4) + x2)] σ (fun y2 σ1 => CallI E shR d mX11_gives [.ref 0, .int (nI 0), .int x2, .int (x2 - x2 / (nI 7) * (nI 7)), .int y2] σ1 (fun y4 σ3 => K y4 σ3))) : CallI E shR (d + 1) mX11_priceOf [.ref 0, .int x1, .int x2] σ K := by
  refine wp_enter (Lo := [some (.ref 0), some (.int x1), some (.int x2)]) mp_X11_priceOf (Nat.le_of_ble_eq_true rfl) rfl ?_
  refine wp_aload_n (i := 0) dX11_priceOf_0 rfl rfl ?_
  refine wp_iconst (v := nI 0) dX11_priceOf_1 rfl ?_
  refine wp_iload_n (i := 2) dX11_priceOf_2 rfl rfl ?_
  refine wp_iload_n (i := 2) dX11_priceOf_3 rfl rfl ?_
  refine wp_bipush (v := nI 7) dX11_priceOf_4 (by decide) ?_
  refine wp_irem dX11_priceOf_6 ⟨by decide, ?_⟩
  refine wp_aload_n (i := 0) dX11_priceOf_7 rfl rfl ?_
  refine wp_iload_n (i := 1) dX11_priceOf_8 rfl rfl ?_
  refine wp_iconst (v := nI 4) dX11_priceOf_9 rfl ?_
  refine wp_iload_n (i := 2) dX11_priceOf_10 rfl rfl ?_
  refine wp_iadd dX11_priceOf_11 ?_
  refine wp_callVI (vs := [.int x1, .int ((nI 4) + x2)]) (rest := [.int (x2 - x2 / (nI 7) * (nI 7)), .int x2, .int (nI 0), .ref 0]) dX11_priceOf_12 mV_X11_of lm_X11_65 hR_0 rfl rfl rfl (Nat.le_of_ble_eq_true rfl) (CallI.mono h (fun y2 σ1 h => ?_))
  refine wp_callVI (vs := [.int (nI 0), .int x2, .int (x2 - x2 / (nI 7) * (nI 7)), .int y2]) (rest := []) dX11_priceOf_15 mV_X11_gives lm_X11_102 hR_0 rfl rfl rfl (Nat.le_of_ble_eq_true rfl) (CallI.mono h (fun y4 σ3 h => ?_))
  exact wp_ireturn dX11_priceOf_18 rfl ⟨_, rfl, h⟩
set_option maxRecDepth 20000 in
set_option maxHeartbeats 2000000 in
theorem vc_Md_price {E : KE} {d : Nat} {x1 : Int32} {x2 : Int32} {σ : Sg} {K : Int32 → Sg → Prop} (h : CallI E shR d mX11_isPerson [.ref 0, .int x1] σ (fun y2 σ1 => (y2 = 0 → CallI E shR d mX11_error [.ref 0, .int (-1000000001 : Int32)] σ1 (fun y4 σ3 => K y4 σ3)) ∧ (¬ y2 = 0 → CallI E shR d mX11_isDay [.int x2] σ1 (fun y6 σ5 => (y6 = 0 → CallI E shR d mX11_error [.ref 0, .int (-1000000001 : Int32)] σ5 (fun y8 σ7 => K y8 σ7)) ∧ (¬ y6 = 0 → CallI E shR d mX11_priceOf [.ref 0, .int x1, .int x2] σ5 (fun y10 σ9 => K y10 σ9)))))) : CallI E shR (d + 1) mX11_price [.ref 0, .int x1, .int x2] σ K := by
  refine wp_enter (Lo := [some (.ref 0), some (.int x1), some (.int x2)]) mp_X11_price (Nat.le_of_ble_eq_true rfl) rfl ?_
  refine wp_aload_n (i := 0) dX11_price_0 rfl rfl ?_
  refine wp_iload_n (i := 1) dX11_price_1 rfl rfl ?_
  refine wp_callVI (vs := [.int x1]) (rest := []) dX11_price_2 mV_X11_isPerson lm_X11_57 hR_0 rfl rfl rfl (Nat.le_of_ble_eq_true rfl) (CallI.mono h (fun y2 σ1 h => ?_))
  refine wp_ifeq (tgt := 24) dX11_price_5 (by decide) ⟨fun q => ?_, fun q => ?_⟩
  · replace h := h.1 q
    refine wp_aload_n (i := 0) dX11_price_24 rfl rfl ?_
    refine wp_ldc lc_X11_85 dX11_price_25 ?_
    refine wp_callVI (vs := [.int (-1000000001 : Int32)]) (rest := []) dX11_price_27 mV_X11_error lm_X11_86 hR_0 rfl rfl rfl (Nat.le_of_ble_eq_true rfl) (CallI.mono h (fun y4 σ3 h => ?_))
    exact wp_ireturn dX11_price_30 rfl ⟨_, rfl, h⟩
  · replace h := h.2 q
    refine wp_iload_n (i := 2) dX11_price_8 rfl rfl ?_
    refine wp_callSI (vs := [.int x2]) (rest := []) dX11_price_9 mS_X11_isDay lm_X11_99 rfl rfl (Nat.le_of_ble_eq_true rfl) (CallI.mono h (fun y6 σ5 h => ?_))
    refine wp_ifeq (tgt := 24) dX11_price_12 (by decide) ⟨fun q => ?_, fun q => ?_⟩
    · replace h := h.1 q
      refine wp_aload_n (i := 0) dX11_price_24 rfl rfl ?_
      refine wp_ldc lc_X11_85 dX11_price_25 ?_
      refine wp_callVI (vs := [.int (-1000000001 : Int32)]) (rest := []) dX11_price_27 mV_X11_error lm_X11_86 hR_0 rfl rfl rfl (Nat.le_of_ble_eq_true rfl) (CallI.mono h (fun y8 σ7 h => ?_))
      exact wp_ireturn dX11_price_30 rfl ⟨_, rfl, h⟩
    · replace h := h.2 q
      refine wp_aload_n (i := 0) dX11_price_15 rfl rfl ?_
      refine wp_iload_n (i := 1) dX11_price_16 rfl rfl ?_
      refine wp_iload_n (i := 2) dX11_price_17 rfl rfl ?_
      refine wp_callVI (vs := [.int x1, .int x2]) (rest := []) dX11_price_18 mV_X11_priceOf lm_X11_106 hR_0 rfl rfl rfl (Nat.le_of_ble_eq_true rfl) (CallI.mono h (fun y10 σ9 h => ?_))
      refine wp_goto (tgt := 30) dX11_price_21 (by decide) ?_
      exact wp_ireturn dX11_price_30 rfl ⟨_, rfl, h⟩
set_option maxRecDepth 20000 in
set_option maxHeartbeats 2000000 in
theorem vc_Md_areTwo {E : KE} {d : Nat} {x1 : Int32} {x2 : Int32} {σ : Sg} {K : Int32 → Sg → Prop} (h : CallI E shR d mX11_isPerson [.ref 0, .int x1] σ (fun y2 σ1 => (y2 = 0 → K (nI 0) σ1) ∧ (¬ y2 = 0 → CallI E shR d mX11_isPerson [.ref 0, .int x2] σ1 (fun y4 σ3 => (y4 = 0 → K (nI 0) σ3) ∧ (¬ y4 = 0 → (x1 = x2 → K (nI 0) σ3) ∧ (¬ x1 = x2 → K (nI 1) σ3)))))) : CallI E shR (d + 1) mX11_areTwo [.ref 0, .int x1, .int x2] σ K := by
  refine wp_enter (Lo := [some (.ref 0), some (.int x1), some (.int x2)]) mp_X11_areTwo (Nat.le_of_ble_eq_true rfl) rfl ?_
  refine wp_aload_n (i := 0) dX11_areTwo_0 rfl rfl ?_
  refine wp_iload_n (i := 1) dX11_areTwo_1 rfl rfl ?_
  refine wp_callVI (vs := [.int x1]) (rest := []) dX11_areTwo_2 mV_X11_isPerson lm_X11_57 hR_0 rfl rfl rfl (Nat.le_of_ble_eq_true rfl) (CallI.mono h (fun y2 σ1 h => ?_))
  refine wp_ifeq (tgt := 25) dX11_areTwo_5 (by decide) ⟨fun q => ?_, fun q => ?_⟩
  · replace h := h.1 q
    refine wp_iconst (v := nI 0) dX11_areTwo_25 rfl ?_
    exact wp_zreturn dX11_areTwo_26 rfl ⟨rfl, _, rfl, h⟩
  · replace h := h.2 q
    refine wp_aload_n (i := 0) dX11_areTwo_8 rfl rfl ?_
    refine wp_iload_n (i := 2) dX11_areTwo_9 rfl rfl ?_
    refine wp_callVI (vs := [.int x2]) (rest := []) dX11_areTwo_10 mV_X11_isPerson lm_X11_57 hR_0 rfl rfl rfl (Nat.le_of_ble_eq_true rfl) (CallI.mono h (fun y4 σ3 h => ?_))
    refine wp_ifeq (tgt := 25) dX11_areTwo_13 (by decide) ⟨fun q => ?_, fun q => ?_⟩
    · replace h := h.1 q
      refine wp_iconst (v := nI 0) dX11_areTwo_25 rfl ?_
      exact wp_zreturn dX11_areTwo_26 rfl ⟨rfl, _, rfl, h⟩
    · replace h := h.2 q
      refine wp_iload_n (i := 1) dX11_areTwo_16 rfl rfl ?_
      refine wp_iload_n (i := 2) dX11_areTwo_17 rfl rfl ?_
      refine wp_icmpeq (tgt := 25) dX11_areTwo_18 (by decide) ⟨fun q => ?_, fun q => ?_⟩
      · replace h := h.1 q
        refine wp_iconst (v := nI 0) dX11_areTwo_25 rfl ?_
        exact wp_zreturn dX11_areTwo_26 rfl ⟨rfl, _, rfl, h⟩
      · replace h := h.2 q
        refine wp_iconst (v := nI 1) dX11_areTwo_21 rfl ?_
        refine wp_goto (tgt := 26) dX11_areTwo_22 (by decide) ?_
        exact wp_zreturn dX11_areTwo_26 rfl ⟨rfl, _, rfl, h⟩
set_option maxRecDepth 20000 in
set_option maxHeartbeats 2000000 in
theorem vc_Md_canSell {E : KE} {d : Nat} {x1 : Int32} {x2 : Int32} {x3 : Int32} {σ : Sg} {K : Int32 → Sg → Prop} (h : CallI E shR d mX11_priceOf [.ref 0, .int x1, .int x3] σ (fun y2 σ1 => CallI E shR d mX11_of [.ref 0, .int x1, .int ((nI 4) + x3)] σ1 (fun y4 σ3 => (y4 ≤ 0 → K (nI 0) σ3) ∧ (¬ y4 ≤ 0 → CallI E shR d mX11_of [.ref 0, .int x2, .int ((nI 4) + x3)] σ3 (fun y6 σ5 => ((nI 9) ≤ y6 → K (nI 0) σ5) ∧ (¬ (nI 9) ≤ y6 → CallI E shR d mX11_of [.ref 0, .int x2, .int (nI 3)] σ5 (fun y8 σ7 => (y8 < y2 → K (nI 0) σ7) ∧ (¬ y8 < y2 → CallI E shR d mX11_of [.ref 0, .int x1, .int (nI 3)] σ7 (fun y10 σ9 => ((nI 9999) < (y10 + y2) → K (nI 0) σ9) ∧ (¬ (nI 9999) < (y10 + y2) → K (nI 1) σ9)))))))))) : CallI E shR (d + 1) mX11_canSell [.ref 0, .int x1, .int x2, .int x3] σ K := by
  refine wp_enter (Lo := [some (.ref 0), some (.int x1), some (.int x2), some (.int x3), none]) mp_X11_canSell (Nat.le_of_ble_eq_true rfl) rfl ?_
  refine wp_aload_n (i := 0) dX11_canSell_0 rfl rfl ?_
  refine wp_iload_n (i := 1) dX11_canSell_1 rfl rfl ?_
  refine wp_iload_n (i := 3) dX11_canSell_2 rfl rfl ?_
  refine wp_callVI (vs := [.int x1, .int x3]) (rest := []) dX11_canSell_3 mV_X11_priceOf lm_X11_106 hR_0 rfl rfl rfl (Nat.le_of_ble_eq_true rfl) (CallI.mono h (fun y2 σ1 h => ?_))
  refine wp_istore (i := 4) (Lo' := [some (.ref 0), some (.int x1), some (.int x2), some (.int x3), some (.int y2)]) dX11_canSell_6 (by decide) rfl rfl ?_
  refine wp_aload_n (i := 0) dX11_canSell_8 rfl rfl ?_
  refine wp_iload_n (i := 1) dX11_canSell_9 rfl rfl ?_
  refine wp_iconst (v := nI 4) dX11_canSell_10 rfl ?_
  refine wp_iload_n (i := 3) dX11_canSell_11 rfl rfl ?_
  refine wp_iadd dX11_canSell_12 ?_
  refine wp_callVI (vs := [.int x1, .int ((nI 4) + x3)]) (rest := []) dX11_canSell_13 mV_X11_of lm_X11_65 hR_0 rfl rfl rfl (Nat.le_of_ble_eq_true rfl) (CallI.mono h (fun y4 σ3 h => ?_))
  refine wp_ifle (tgt := 62) dX11_canSell_16 (by decide) ⟨fun q => ?_, fun q => ?_⟩
  · replace h := h.1 q
    refine wp_iconst (v := nI 0) dX11_canSell_62 rfl ?_
    exact wp_zreturn dX11_canSell_63 rfl ⟨rfl, _, rfl, h⟩
  · replace h := h.2 q
    refine wp_aload_n (i := 0) dX11_canSell_19 rfl rfl ?_
    refine wp_iload_n (i := 2) dX11_canSell_20 rfl rfl ?_
    refine wp_iconst (v := nI 4) dX11_canSell_21 rfl ?_
    refine wp_iload_n (i := 3) dX11_canSell_22 rfl rfl ?_
    refine wp_iadd dX11_canSell_23 ?_
    refine wp_callVI (vs := [.int x2, .int ((nI 4) + x3)]) (rest := []) dX11_canSell_24 mV_X11_of lm_X11_65 hR_0 rfl rfl rfl (Nat.le_of_ble_eq_true rfl) (CallI.mono h (fun y6 σ5 h => ?_))
    refine wp_bipush (v := nI 9) dX11_canSell_27 (by decide) ?_
    refine wp_icmpge (tgt := 62) dX11_canSell_29 (by decide) ⟨fun q => ?_, fun q => ?_⟩
    · replace h := h.1 q
      refine wp_iconst (v := nI 0) dX11_canSell_62 rfl ?_
      exact wp_zreturn dX11_canSell_63 rfl ⟨rfl, _, rfl, h⟩
    · replace h := h.2 q
      refine wp_aload_n (i := 0) dX11_canSell_32 rfl rfl ?_
      refine wp_iload_n (i := 2) dX11_canSell_33 rfl rfl ?_
      refine wp_iconst (v := nI 3) dX11_canSell_34 rfl ?_
      refine wp_callVI (vs := [.int x2, .int (nI 3)]) (rest := []) dX11_canSell_35 mV_X11_of lm_X11_65 hR_0 rfl rfl rfl (Nat.le_of_ble_eq_true rfl) (CallI.mono h (fun y8 σ7 h => ?_))
      refine wp_iload (i := 4) dX11_canSell_38 rfl ?_
      refine wp_icmplt (tgt := 62) dX11_canSell_40 (by decide) ⟨fun q => ?_, fun q => ?_⟩
      · replace h := h.1 q
        refine wp_iconst (v := nI 0) dX11_canSell_62 rfl ?_
        exact wp_zreturn dX11_canSell_63 rfl ⟨rfl, _, rfl, h⟩
      · replace h := h.2 q
        refine wp_aload_n (i := 0) dX11_canSell_43 rfl rfl ?_
        refine wp_iload_n (i := 1) dX11_canSell_44 rfl rfl ?_
        refine wp_iconst (v := nI 3) dX11_canSell_45 rfl ?_
        refine wp_callVI (vs := [.int x1, .int (nI 3)]) (rest := []) dX11_canSell_46 mV_X11_of lm_X11_65 hR_0 rfl rfl rfl (Nat.le_of_ble_eq_true rfl) (CallI.mono h (fun y10 σ9 h => ?_))
        refine wp_iload (i := 4) dX11_canSell_49 rfl ?_
        refine wp_iadd dX11_canSell_51 ?_
        refine wp_sipush (v := nI 9999) dX11_canSell_52 (by decide) ?_
        refine wp_icmpgt (tgt := 62) dX11_canSell_55 (by decide) ⟨fun q => ?_, fun q => ?_⟩
        · replace h := h.1 q
          refine wp_iconst (v := nI 0) dX11_canSell_62 rfl ?_
          exact wp_zreturn dX11_canSell_63 rfl ⟨rfl, _, rfl, h⟩
        · replace h := h.2 q
          refine wp_iconst (v := nI 1) dX11_canSell_58 rfl ?_
          refine wp_goto (tgt := 63) dX11_canSell_59 (by decide) ?_
          exact wp_zreturn dX11_canSell_63 rfl ⟨rfl, _, rfl, h⟩
set_option maxRecDepth 20000 in
set_option maxHeartbeats 2000000 in
theorem vc_Md_sells {E : KE} {d : Nat} {x1 : Int32} {x2 : Int32} {x3 : Int32} {σ : Sg} {K : Int32 → Sg → Prop} (h : CallI E shR d mX11_priceOf [.ref 0, .int x1, .int x3] σ (fun y2 σ1 => CallI E shR d mX11_of [.ref 0, .int x1, .int (nI 3)] σ1 (fun y4 σ3 => CallN E shR d mX11_lay [.ref 0, .int x1, .int (nI 3), .int (y4 + y2)] σ3 (fun σ5 => CallI E shR d mX11_of [.ref 0, .int x2, .int (nI 3)] σ5 (fun y7 σ6 => CallN E shR d mX11_lay [.ref 0, .int x2, .int (nI 3), .int (y7 - y2)] σ6 (fun σ8 => CallI E shR d mX11_of [.ref 0, .int x1, .int ((nI 4) + x3)] σ8 (fun y10 σ9 => CallN E shR d mX11_lay [.ref 0, .int x1, .int ((nI 4) + x3), .int (y10 - (nI 1))] σ9 (fun σ11 => CallI E shR d mX11_of [.ref 0, .int x2, .int ((nI 4) + x3)] σ11 (fun y13 σ12 => CallN E shR d mX11_lay [.ref 0, .int x2, .int ((nI 4) + x3), .int (y13 + (nI 1))] σ12 (fun σ14 => K y2 σ14)))))))))) : CallI E shR (d + 1) mX11_sells [.ref 0, .int x1, .int x2, .int x3] σ K := by
  refine wp_enter (Lo := [some (.ref 0), some (.int x1), some (.int x2), some (.int x3), none]) mp_X11_sells (Nat.le_of_ble_eq_true rfl) rfl ?_
  refine wp_aload_n (i := 0) dX11_sells_0 rfl rfl ?_
  refine wp_iload_n (i := 1) dX11_sells_1 rfl rfl ?_
  refine wp_iload_n (i := 3) dX11_sells_2 rfl rfl ?_
  refine wp_callVI (vs := [.int x1, .int x3]) (rest := []) dX11_sells_3 mV_X11_priceOf lm_X11_106 hR_0 rfl rfl rfl (Nat.le_of_ble_eq_true rfl) (CallI.mono h (fun y2 σ1 h => ?_))
  refine wp_istore (i := 4) (Lo' := [some (.ref 0), some (.int x1), some (.int x2), some (.int x3), some (.int y2)]) dX11_sells_6 (by decide) rfl rfl ?_
  refine wp_aload_n (i := 0) dX11_sells_8 rfl rfl ?_
  refine wp_iload_n (i := 1) dX11_sells_9 rfl rfl ?_
  refine wp_iconst (v := nI 3) dX11_sells_10 rfl ?_
  refine wp_aload_n (i := 0) dX11_sells_11 rfl rfl ?_
  refine wp_iload_n (i := 1) dX11_sells_12 rfl rfl ?_
  refine wp_iconst (v := nI 3) dX11_sells_13 rfl ?_
  refine wp_callVI (vs := [.int x1, .int (nI 3)]) (rest := [.int (nI 3), .int x1, .ref 0]) dX11_sells_14 mV_X11_of lm_X11_65 hR_0 rfl rfl rfl (Nat.le_of_ble_eq_true rfl) (CallI.mono h (fun y4 σ3 h => ?_))
  refine wp_iload (i := 4) dX11_sells_17 rfl ?_
  refine wp_iadd dX11_sells_19 ?_
  refine wp_callVN (vs := [.int x1, .int (nI 3), .int (y4 + y2)]) (rest := []) dX11_sells_20 mV_X11_lay lm_X11_91 hR_0 rfl rfl rfl (Nat.le_of_ble_eq_true rfl) (CallN.mono h (fun σ5 h => ?_))
  refine wp_aload_n (i := 0) dX11_sells_23 rfl rfl ?_
  refine wp_iload_n (i := 2) dX11_sells_24 rfl rfl ?_
  refine wp_iconst (v := nI 3) dX11_sells_25 rfl ?_
  refine wp_aload_n (i := 0) dX11_sells_26 rfl rfl ?_
  refine wp_iload_n (i := 2) dX11_sells_27 rfl rfl ?_
  refine wp_iconst (v := nI 3) dX11_sells_28 rfl ?_
  refine wp_callVI (vs := [.int x2, .int (nI 3)]) (rest := [.int (nI 3), .int x2, .ref 0]) dX11_sells_29 mV_X11_of lm_X11_65 hR_0 rfl rfl rfl (Nat.le_of_ble_eq_true rfl) (CallI.mono h (fun y7 σ6 h => ?_))
  refine wp_iload (i := 4) dX11_sells_32 rfl ?_
  refine wp_isub dX11_sells_34 ?_
  refine wp_callVN (vs := [.int x2, .int (nI 3), .int (y7 - y2)]) (rest := []) dX11_sells_35 mV_X11_lay lm_X11_91 hR_0 rfl rfl rfl (Nat.le_of_ble_eq_true rfl) (CallN.mono h (fun σ8 h => ?_))
  refine wp_aload_n (i := 0) dX11_sells_38 rfl rfl ?_
  refine wp_iload_n (i := 1) dX11_sells_39 rfl rfl ?_
  refine wp_iconst (v := nI 4) dX11_sells_40 rfl ?_
  refine wp_iload_n (i := 3) dX11_sells_41 rfl rfl ?_
  refine wp_iadd dX11_sells_42 ?_
  refine wp_aload_n (i := 0) dX11_sells_43 rfl rfl ?_
  refine wp_iload_n (i := 1) dX11_sells_44 rfl rfl ?_
  refine wp_iconst (v := nI 4) dX11_sells_45 rfl ?_
  refine wp_iload_n (i := 3) dX11_sells_46 rfl rfl ?_
  refine wp_iadd dX11_sells_47 ?_
  refine wp_callVI (vs := [.int x1, .int ((nI 4) + x3)]) (rest := [.int ((nI 4) + x3), .int x1, .ref 0]) dX11_sells_48 mV_X11_of lm_X11_65 hR_0 rfl rfl rfl (Nat.le_of_ble_eq_true rfl) (CallI.mono h (fun y10 σ9 h => ?_))
  refine wp_iconst (v := nI 1) dX11_sells_51 rfl ?_
  refine wp_isub dX11_sells_52 ?_
  refine wp_callVN (vs := [.int x1, .int ((nI 4) + x3), .int (y10 - (nI 1))]) (rest := []) dX11_sells_53 mV_X11_lay lm_X11_91 hR_0 rfl rfl rfl (Nat.le_of_ble_eq_true rfl) (CallN.mono h (fun σ11 h => ?_))
  refine wp_aload_n (i := 0) dX11_sells_56 rfl rfl ?_
  refine wp_iload_n (i := 2) dX11_sells_57 rfl rfl ?_
  refine wp_iconst (v := nI 4) dX11_sells_58 rfl ?_
  refine wp_iload_n (i := 3) dX11_sells_59 rfl rfl ?_
  refine wp_iadd dX11_sells_60 ?_
  refine wp_aload_n (i := 0) dX11_sells_61 rfl rfl ?_
  refine wp_iload_n (i := 2) dX11_sells_62 rfl rfl ?_
  refine wp_iconst (v := nI 4) dX11_sells_63 rfl ?_
  refine wp_iload_n (i := 3) dX11_sells_64 rfl rfl ?_
  refine wp_iadd dX11_sells_65 ?_
  refine wp_callVI (vs := [.int x2, .int ((nI 4) + x3)]) (rest := [.int ((nI 4) + x3), .int x2, .ref 0]) dX11_sells_66 mV_X11_of lm_X11_65 hR_0 rfl rfl rfl (Nat.le_of_ble_eq_true rfl) (CallI.mono h (fun y13 σ12 h => ?_))
  refine wp_iconst (v := nI 1) dX11_sells_69 rfl ?_
  refine wp_iadd dX11_sells_70 ?_
  refine wp_callVN (vs := [.int x2, .int ((nI 4) + x3), .int (y13 + (nI 1))]) (rest := []) dX11_sells_71 mV_X11_lay lm_X11_91 hR_0 rfl rfl rfl (Nat.le_of_ble_eq_true rfl) (CallN.mono h (fun σ14 h => ?_))
  refine wp_iload (i := 4) dX11_sells_74 rfl ?_
  exact wp_ireturn dX11_sells_76 rfl ⟨_, rfl, h⟩
set_option maxRecDepth 20000 in
set_option maxHeartbeats 2000000 in
theorem vc_Md_sell {E : KE} {d : Nat} {x1 : Int32} {x2 : Int32} {x3 : Int32} {σ : Sg} {K : Int32 → Sg → Prop} (h : CallI E shR d mX11_areTwo [.ref 0, .int x1, .int x2] σ (fun y2 σ1 => (y2 = 0 → CallI E shR d mX11_error [.ref 0, .int (-1000000001 : Int32)] σ1 (fun y4 σ3 => K y4 σ3)) ∧ (¬ y2 = 0 → CallI E shR d mX11_isDay [.int x3] σ1 (fun y6 σ5 => (¬ y6 = 0 → CallI E shR d mX11_canSell [.ref 0, .int x1, .int x2, .int x3] σ5 (fun y8 σ7 => (y8 = 0 → CallI E shR d mX11_error [.ref 0, .int (-1000000003 : Int32)] σ7 (fun y10 σ9 => K y10 σ9)) ∧ (¬ y8 = 0 → CallI E shR d mX11_sells [.ref 0, .int x1, .int x2, .int x3] σ7 (fun y12 σ11 => K y12 σ11)))) ∧ (y6 = 0 → CallI E shR d mX11_error [.ref 0, .int (-1000000001 : Int32)] σ5 (fun y14 σ13 => K y14 σ13)))))) : CallI E shR (d + 1) mX11_sell [.ref 0, .int x1, .int x2, .int x3] σ K := by
  refine wp_enter (Lo := [some (.ref 0), some (.int x1), some (.int x2), some (.int x3)]) mp_X11_sell (Nat.le_of_ble_eq_true rfl) rfl ?_
  refine wp_aload_n (i := 0) dX11_sell_0 rfl rfl ?_
  refine wp_iload_n (i := 1) dX11_sell_1 rfl rfl ?_
  refine wp_iload_n (i := 2) dX11_sell_2 rfl rfl ?_
  refine wp_callVI (vs := [.int x1, .int x2]) (rest := []) dX11_sell_3 mV_X11_areTwo lm_X11_109 hR_0 rfl rfl rfl (Nat.le_of_ble_eq_true rfl) (CallI.mono h (fun y2 σ1 h => ?_))
  refine wp_ifeq (tgt := 16) dX11_sell_6 (by decide) ⟨fun q => ?_, fun q => ?_⟩
  · replace h := h.1 q
    refine wp_aload_n (i := 0) dX11_sell_16 rfl rfl ?_
    refine wp_ldc lc_X11_85 dX11_sell_17 ?_
    refine wp_callVI (vs := [.int (-1000000001 : Int32)]) (rest := []) dX11_sell_19 mV_X11_error lm_X11_86 hR_0 rfl rfl rfl (Nat.le_of_ble_eq_true rfl) (CallI.mono h (fun y4 σ3 h => ?_))
    exact wp_ireturn dX11_sell_22 rfl ⟨_, rfl, h⟩
  · replace h := h.2 q
    refine wp_iload_n (i := 3) dX11_sell_9 rfl rfl ?_
    refine wp_callSI (vs := [.int x3]) (rest := []) dX11_sell_10 mS_X11_isDay lm_X11_99 rfl rfl (Nat.le_of_ble_eq_true rfl) (CallI.mono h (fun y6 σ5 h => ?_))
    refine wp_ifne (tgt := 23) dX11_sell_13 (by decide) ⟨fun q => ?_, fun q => ?_⟩
    · replace h := h.1 q
      refine wp_aload_n (i := 0) dX11_sell_23 rfl rfl ?_
      refine wp_iload_n (i := 1) dX11_sell_24 rfl rfl ?_
      refine wp_iload_n (i := 2) dX11_sell_25 rfl rfl ?_
      refine wp_iload_n (i := 3) dX11_sell_26 rfl rfl ?_
      refine wp_callVI (vs := [.int x1, .int x2, .int x3]) (rest := []) dX11_sell_27 mV_X11_canSell lm_X11_112 hR_0 rfl rfl rfl (Nat.le_of_ble_eq_true rfl) (CallI.mono h (fun y8 σ7 h => ?_))
      refine wp_ifeq (tgt := 43) dX11_sell_30 (by decide) ⟨fun q => ?_, fun q => ?_⟩
      · replace h := h.1 q
        refine wp_aload_n (i := 0) dX11_sell_43 rfl rfl ?_
        refine wp_ldc lc_X11_118 dX11_sell_44 ?_
        refine wp_callVI (vs := [.int (-1000000003 : Int32)]) (rest := []) dX11_sell_46 mV_X11_error lm_X11_86 hR_0 rfl rfl rfl (Nat.le_of_ble_eq_true rfl) (CallI.mono h (fun y10 σ9 h => ?_))
        exact wp_ireturn dX11_sell_49 rfl ⟨_, rfl, h⟩
      · replace h := h.2 q
        refine wp_aload_n (i := 0) dX11_sell_33 rfl rfl ?_
        refine wp_iload_n (i := 1) dX11_sell_34 rfl rfl ?_
        refine wp_iload_n (i := 2) dX11_sell_35 rfl rfl ?_
        refine wp_iload_n (i := 3) dX11_sell_36 rfl rfl ?_
        refine wp_callVI (vs := [.int x1, .int x2, .int x3]) (rest := []) dX11_sell_37 mV_X11_sells lm_X11_115 hR_0 rfl rfl rfl (Nat.le_of_ble_eq_true rfl) (CallI.mono h (fun y12 σ11 h => ?_))
        refine wp_goto (tgt := 49) dX11_sell_40 (by decide) ?_
        exact wp_ireturn dX11_sell_49 rfl ⟨_, rfl, h⟩
    · replace h := h.2 q
      refine wp_aload_n (i := 0) dX11_sell_16 rfl rfl ?_
      refine wp_ldc lc_X11_85 dX11_sell_17 ?_
      refine wp_callVI (vs := [.int (-1000000001 : Int32)]) (rest := []) dX11_sell_19 mV_X11_error lm_X11_86 hR_0 rfl rfl rfl (Nat.le_of_ble_eq_true rfl) (CallI.mono h (fun y14 σ13 h => ?_))
      exact wp_ireturn dX11_sell_22 rfl ⟨_, rfl, h⟩
set_option maxRecDepth 20000 in
set_option maxHeartbeats 2000000 in
theorem vb_Md_copyAll_1_3_2 {E : KE} {d : Nat} {x2 : Int32} {σ : Sg} {K : Sg → Prop} (h : ((nI 552) ≤ x2 → K σ) ∧ (¬ (nI 552) ≤ x2 → vp_in x2 552 ∧ (vp_in x2 552 ∧ (∀ σ1, σ1 = k_put σ 3 (upd (σ 3) x2.toNatClampNeg (σ 1 x2.toNatClampNeg)) → WP E shR mX11_copyAll d 2 [some (.ref 1), some (.ref 3), some (.int (x2 + nI 1))] [] σ1 (k_qn K))))) : WP E shR mX11_copyAll d 2 [some (.ref 1), some (.ref 3), some (.int x2)] [] σ (k_qn K) := by
  refine wp_iload_n (i := 2) dX11_copyAll_2 rfl rfl ?_
  refine wp_sipush (v := nI 552) dX11_copyAll_3 (by decide) ?_
  refine wp_icmpge (tgt := 21) dX11_copyAll_6 (by decide) ⟨fun q => ?_, fun q => ?_⟩
  · replace h := h.1 q
    exact wp_return dX11_copyAll_21 rfl ⟨rfl, h⟩
  · replace h := h.2 q
    refine wp_aload_n (i := 1) dX11_copyAll_9 rfl rfl ?_
    refine wp_iload_n (i := 2) dX11_copyAll_10 rfl rfl ?_
    refine wp_aload_n (i := 0) dX11_copyAll_11 rfl rfl ?_
    refine wp_iload_n (i := 2) dX11_copyAll_12 rfl rfl ?_
    refine wp_iald dX11_copyAll_13 hR_1 ⟨h.1, ?_⟩
    replace h := h.2
    refine wp_iast dX11_copyAll_14 hR_3 ⟨h.1, ?_⟩
    refine wp_nm (fun σ1 e2 => ?_)
    replace h := h.2 σ1 e2
    refine wp_iinc (i := 2) (v := x2 + nI 1) (Lo' := [some (.ref 1), some (.ref 3), some (.int (x2 + nI 1))]) dX11_copyAll_15 rfl (by rfl) (by decide) rfl rfl ?_
    refine wp_goto (tgt := 2) dX11_copyAll_18 (by decide) ?_
    exact wp_mask [true, true, true] h
set_option maxRecDepth 20000 in
set_option maxHeartbeats 2000000 in
theorem vc_Md_copyAll_1_3 {E : KE} {d : Nat} {σ : Sg} {K : Sg → Prop} (h : WP E shR mX11_copyAll d 2 [some (.ref 1), some (.ref 3), some (.int (nI 0))] [] σ (k_qn K)) : CallN E shR d mX11_copyAll [.ref 1, .ref 3] σ K := by
  refine wp_enter (Lo := [some (.ref 1), some (.ref 3), none]) mp_X11_copyAll (Nat.le_of_ble_eq_true rfl) rfl ?_
  refine wp_iconst (v := nI 0) dX11_copyAll_0 rfl ?_
  refine wp_istore_n (i := 2) (Lo' := [some (.ref 1), some (.ref 3), some (.int (nI 0))]) dX11_copyAll_1 rfl (by decide) rfl rfl ?_
  exact wp_mask [true, true, true] h
set_option maxRecDepth 20000 in
set_option maxHeartbeats 2000000 in
theorem vc_Md_thinks {E : KE} {d : Nat} {σ : Sg} {K : Sg → Prop} (h : CallN E shR d mX11_copyAll [.ref 1, .ref 3] σ (fun σ1 => K σ1)) : CallN E shR (d + 1) mX11_thinks [.ref 0] σ K := by
  refine wp_enter (Lo := [some (.ref 0)]) mp_X11_thinks (Nat.le_of_ble_eq_true rfl) rfl ?_
  refine wp_aload_n (i := 0) dX11_thinks_0 rfl rfl ?_
  refine wp_getR (t := 1) dX11_thinks_1 lf_X11_9 hR_0 rfl ?_
  refine wp_aload_n (i := 0) dX11_thinks_4 rfl rfl ?_
  refine wp_getR (t := 3) dX11_thinks_5 lf_X11_16 hR_0 rfl ?_
  refine wp_callSN (vs := [.ref 1, .ref 3]) (rest := []) dX11_thinks_8 mS_X11_copyAll lm_X11_205 rfl rfl (Nat.le_of_ble_eq_true rfl) (CallN.mono h (fun σ1 h => ?_))
  exact wp_return dX11_thinks_11 rfl ⟨rfl, h⟩
set_option maxRecDepth 20000 in
set_option maxHeartbeats 2000000 in
theorem vb_Md_copyAll_3_1_2 {E : KE} {d : Nat} {x2 : Int32} {σ : Sg} {K : Sg → Prop} (h : ((nI 552) ≤ x2 → K σ) ∧ (¬ (nI 552) ≤ x2 → vp_in x2 552 ∧ (vp_in x2 552 ∧ (∀ σ1, σ1 = k_put σ 1 (upd (σ 1) x2.toNatClampNeg (σ 3 x2.toNatClampNeg)) → WP E shR mX11_copyAll d 2 [some (.ref 3), some (.ref 1), some (.int (x2 + nI 1))] [] σ1 (k_qn K))))) : WP E shR mX11_copyAll d 2 [some (.ref 3), some (.ref 1), some (.int x2)] [] σ (k_qn K) := by
  refine wp_iload_n (i := 2) dX11_copyAll_2 rfl rfl ?_
  refine wp_sipush (v := nI 552) dX11_copyAll_3 (by decide) ?_
  refine wp_icmpge (tgt := 21) dX11_copyAll_6 (by decide) ⟨fun q => ?_, fun q => ?_⟩
  · replace h := h.1 q
    exact wp_return dX11_copyAll_21 rfl ⟨rfl, h⟩
  · replace h := h.2 q
    refine wp_aload_n (i := 1) dX11_copyAll_9 rfl rfl ?_
    refine wp_iload_n (i := 2) dX11_copyAll_10 rfl rfl ?_
    refine wp_aload_n (i := 0) dX11_copyAll_11 rfl rfl ?_
    refine wp_iload_n (i := 2) dX11_copyAll_12 rfl rfl ?_
    refine wp_iald dX11_copyAll_13 hR_3 ⟨h.1, ?_⟩
    replace h := h.2
    refine wp_iast dX11_copyAll_14 hR_1 ⟨h.1, ?_⟩
    refine wp_nm (fun σ1 e2 => ?_)
    replace h := h.2 σ1 e2
    refine wp_iinc (i := 2) (v := x2 + nI 1) (Lo' := [some (.ref 3), some (.ref 1), some (.int (x2 + nI 1))]) dX11_copyAll_15 rfl (by rfl) (by decide) rfl rfl ?_
    refine wp_goto (tgt := 2) dX11_copyAll_18 (by decide) ?_
    exact wp_mask [true, true, true] h
set_option maxRecDepth 20000 in
set_option maxHeartbeats 2000000 in
theorem vc_Md_copyAll_3_1 {E : KE} {d : Nat} {σ : Sg} {K : Sg → Prop} (h : WP E shR mX11_copyAll d 2 [some (.ref 3), some (.ref 1), some (.int (nI 0))] [] σ (k_qn K)) : CallN E shR d mX11_copyAll [.ref 3, .ref 1] σ K := by
  refine wp_enter (Lo := [some (.ref 3), some (.ref 1), none]) mp_X11_copyAll (Nat.le_of_ble_eq_true rfl) rfl ?_
  refine wp_iconst (v := nI 0) dX11_copyAll_0 rfl ?_
  refine wp_istore_n (i := 2) (Lo' := [some (.ref 3), some (.ref 1), some (.int (nI 0))]) dX11_copyAll_1 rfl (by decide) rfl rfl ?_
  exact wp_mask [true, true, true] h
set_option maxRecDepth 20000 in
set_option maxHeartbeats 2000000 in
theorem vc_Md_putsBack {E : KE} {d : Nat} {σ : Sg} {K : Sg → Prop} (h : CallN E shR d mX11_copyAll [.ref 3, .ref 1] σ (fun σ1 => K σ1)) : CallN E shR (d + 1) mX11_putsBack [.ref 0] σ K := by
  refine wp_enter (Lo := [some (.ref 0)]) mp_X11_putsBack (Nat.le_of_ble_eq_true rfl) rfl ?_
  refine wp_aload_n (i := 0) dX11_putsBack_0 rfl rfl ?_
  refine wp_getR (t := 3) dX11_putsBack_1 lf_X11_16 hR_0 rfl ?_
  refine wp_aload_n (i := 0) dX11_putsBack_4 rfl rfl ?_
  refine wp_getR (t := 1) dX11_putsBack_5 lf_X11_9 hR_0 rfl ?_
  refine wp_callSN (vs := [.ref 3, .ref 1]) (rest := []) dX11_putsBack_8 mS_X11_copyAll lm_X11_205 rfl rfl (Nat.le_of_ble_eq_true rfl) (CallN.mono h (fun σ1 h => ?_))
  exact wp_return dX11_putsBack_11 rfl ⟨rfl, h⟩
set_option maxRecDepth 20000 in
set_option maxHeartbeats 2000000 in
theorem vb_Md_sellWeek_38 {E : KE} {d : Nat} {x1 : Int32} {x2 : Int32} {x3 : Int32} {x4 : Int32} {x5 : Int32} {σ : Sg} {K : Int32 → Sg → Prop} (h : ((((nI 7) * x3) + (nI 7)) ≤ x5 → K x4 σ) ∧ (¬ (((nI 7) * x3) + (nI 7)) ≤ x5 → CallI E shR d mX11_canSell [.ref 0, .int x1, .int x2, .int x5] σ (fun y2 σ1 => (¬ y2 = 0 → CallI E shR d mX11_sells [.ref 0, .int x1, .int x2, .int x5] σ1 (fun y4 σ3 => WP E shR mX11_sellWeek (d + 1) 38 [some (.ref 0), some (.int x1), some (.int x2), some (.int x3), some (.int (x4 + y4)), some (.int (x5 + nI 1))] [] σ3 (k_qi K))) ∧ (y2 = 0 → CallN E shR d mX11_putsBack [.ref 0] σ1 (fun σ5 => CallI E shR d mX11_error [.ref 0, .int (-1000000003 : Int32)] σ5 (fun y7 σ6 => K y7 σ6)))))) : WP E shR mX11_sellWeek (d + 1) 38 [some (.ref 0), some (.int x1), some (.int x2), some (.int x3), some (.int x4), some (.int x5)] [] σ (k_qi K) := by
  refine wp_iload (i := 5) dX11_sellWeek_38 rfl ?_
  refine wp_bipush (v := nI 7) dX11_sellWeek_40 (by decide) ?_
  refine wp_iload_n (i := 3) dX11_sellWeek_42 rfl rfl ?_
  refine wp_imul dX11_sellWeek_43 ?_
  refine wp_bipush (v := nI 7) dX11_sellWeek_44 (by decide) ?_
  refine wp_iadd dX11_sellWeek_46 ?_
  refine wp_icmpge (tgt := 91) dX11_sellWeek_47 (by decide) ⟨fun q => ?_, fun q => ?_⟩
  · replace h := h.1 q
    refine wp_iload (i := 4) dX11_sellWeek_91 rfl ?_
    exact wp_ireturn dX11_sellWeek_93 rfl ⟨_, rfl, h⟩
  · replace h := h.2 q
    refine wp_aload_n (i := 0) dX11_sellWeek_50 rfl rfl ?_
    refine wp_iload_n (i := 1) dX11_sellWeek_51 rfl rfl ?_
    refine wp_iload_n (i := 2) dX11_sellWeek_52 rfl rfl ?_
    refine wp_iload (i := 5) dX11_sellWeek_53 rfl ?_
    refine wp_callVI (vs := [.int x1, .int x2, .int x5]) (rest := []) dX11_sellWeek_55 mV_X11_canSell lm_X11_112 hR_0 rfl rfl rfl (Nat.le_of_ble_eq_true rfl) (CallI.mono h (fun y2 σ1 h => ?_))
    refine wp_ifne (tgt := 72) dX11_sellWeek_58 (by decide) ⟨fun q => ?_, fun q => ?_⟩
    · replace h := h.1 q
      refine wp_iload (i := 4) dX11_sellWeek_72 rfl ?_
      refine wp_aload_n (i := 0) dX11_sellWeek_74 rfl rfl ?_
      refine wp_iload_n (i := 1) dX11_sellWeek_75 rfl rfl ?_
      refine wp_iload_n (i := 2) dX11_sellWeek_76 rfl rfl ?_
      refine wp_iload (i := 5) dX11_sellWeek_77 rfl ?_
      refine wp_callVI (vs := [.int x1, .int x2, .int x5]) (rest := [.int x4]) dX11_sellWeek_79 mV_X11_sells lm_X11_115 hR_0 rfl rfl rfl (Nat.le_of_ble_eq_true rfl) (CallI.mono h (fun y4 σ3 h => ?_))
      refine wp_iadd dX11_sellWeek_82 ?_
      refine wp_istore (i := 4) (Lo' := [some (.ref 0), some (.int x1), some (.int x2), some (.int x3), some (.int (x4 + y4)), some (.int x5)]) dX11_sellWeek_83 (by decide) rfl rfl ?_
      refine wp_iinc (i := 5) (v := x5 + nI 1) (Lo' := [some (.ref 0), some (.int x1), some (.int x2), some (.int x3), some (.int (x4 + y4)), some (.int (x5 + nI 1))]) dX11_sellWeek_85 rfl (by rfl) (by decide) rfl rfl ?_
      refine wp_goto (tgt := 38) dX11_sellWeek_88 (by decide) ?_
      exact wp_mask [true, true, true, true, true, true] h
    · replace h := h.2 q
      refine wp_aload_n (i := 0) dX11_sellWeek_61 rfl rfl ?_
      refine wp_callVN (vs := []) (rest := []) dX11_sellWeek_62 mV_X11_putsBack lm_X11_122 hR_0 rfl rfl rfl (Nat.le_of_ble_eq_true rfl) (CallN.mono h (fun σ5 h => ?_))
      refine wp_aload_n (i := 0) dX11_sellWeek_65 rfl rfl ?_
      refine wp_ldc lc_X11_118 dX11_sellWeek_66 ?_
      refine wp_callVI (vs := [.int (-1000000003 : Int32)]) (rest := []) dX11_sellWeek_68 mV_X11_error lm_X11_86 hR_0 rfl rfl rfl (Nat.le_of_ble_eq_true rfl) (CallI.mono h (fun y7 σ6 h => ?_))
      exact wp_ireturn dX11_sellWeek_71 rfl ⟨_, rfl, h⟩
set_option maxRecDepth 20000 in
set_option maxHeartbeats 2000000 in
theorem vc_Md_sellWeek {E : KE} {d : Nat} {x1 : Int32} {x2 : Int32} {x3 : Int32} {σ : Sg} {K : Int32 → Sg → Prop} (h : CallI E shR d mX11_areTwo [.ref 0, .int x1, .int x2] σ (fun y2 σ1 => (y2 = 0 → CallI E shR d mX11_error [.ref 0, .int (-1000000001 : Int32)] σ1 (fun y4 σ3 => K y4 σ3)) ∧ (¬ y2 = 0 → CallI E shR d mX11_in [.int x3, .int (nI 0), .int (nI 3)] σ1 (fun y6 σ5 => (¬ y6 = 0 → CallN E shR d mX11_thinks [.ref 0] σ5 (fun σ7 => WP E shR mX11_sellWeek (d + 1) 38 [some (.ref 0), some (.int x1), some (.int x2), some (.int x3), some (.int (nI 0)), some (.int ((nI 7) * x3))] [] σ7 (k_qi K))) ∧ (y6 = 0 → CallI E shR d mX11_error [.ref 0, .int (-1000000001 : Int32)] σ5 (fun y9 σ8 => K y9 σ8)))))) : CallI E shR (d + 1) mX11_sellWeek [.ref 0, .int x1, .int x2, .int x3] σ K := by
  refine wp_enter (Lo := [some (.ref 0), some (.int x1), some (.int x2), some (.int x3), none, none]) mp_X11_sellWeek (Nat.le_of_ble_eq_true rfl) rfl ?_
  refine wp_aload_n (i := 0) dX11_sellWeek_0 rfl rfl ?_
  refine wp_iload_n (i := 1) dX11_sellWeek_1 rfl rfl ?_
  refine wp_iload_n (i := 2) dX11_sellWeek_2 rfl rfl ?_
  refine wp_callVI (vs := [.int x1, .int x2]) (rest := []) dX11_sellWeek_3 mV_X11_areTwo lm_X11_109 hR_0 rfl rfl rfl (Nat.le_of_ble_eq_true rfl) (CallI.mono h (fun y2 σ1 h => ?_))
  refine wp_ifeq (tgt := 18) dX11_sellWeek_6 (by decide) ⟨fun q => ?_, fun q => ?_⟩
  · replace h := h.1 q
    refine wp_aload_n (i := 0) dX11_sellWeek_18 rfl rfl ?_
    refine wp_ldc lc_X11_85 dX11_sellWeek_19 ?_
    refine wp_callVI (vs := [.int (-1000000001 : Int32)]) (rest := []) dX11_sellWeek_21 mV_X11_error lm_X11_86 hR_0 rfl rfl rfl (Nat.le_of_ble_eq_true rfl) (CallI.mono h (fun y4 σ3 h => ?_))
    exact wp_ireturn dX11_sellWeek_24 rfl ⟨_, rfl, h⟩
  · replace h := h.2 q
    refine wp_iload_n (i := 3) dX11_sellWeek_9 rfl rfl ?_
    refine wp_iconst (v := nI 0) dX11_sellWeek_10 rfl ?_
    refine wp_iconst (v := nI 3) dX11_sellWeek_11 rfl ?_
    refine wp_callSI (vs := [.int x3, .int (nI 0), .int (nI 3)]) (rest := []) dX11_sellWeek_12 mS_X11_in lm_X11_53 rfl rfl (Nat.le_of_ble_eq_true rfl) (CallI.mono h (fun y6 σ5 h => ?_))
    refine wp_ifne (tgt := 25) dX11_sellWeek_15 (by decide) ⟨fun q => ?_, fun q => ?_⟩
    · replace h := h.1 q
      refine wp_aload_n (i := 0) dX11_sellWeek_25 rfl rfl ?_
      refine wp_callVN (vs := []) (rest := []) dX11_sellWeek_26 mV_X11_thinks lm_X11_119 hR_0 rfl rfl rfl (Nat.le_of_ble_eq_true rfl) (CallN.mono h (fun σ7 h => ?_))
      refine wp_iconst (v := nI 0) dX11_sellWeek_29 rfl ?_
      refine wp_istore (i := 4) (Lo' := [some (.ref 0), some (.int x1), some (.int x2), some (.int x3), some (.int (nI 0)), none]) dX11_sellWeek_30 (by decide) rfl rfl ?_
      refine wp_bipush (v := nI 7) dX11_sellWeek_32 (by decide) ?_
      refine wp_iload_n (i := 3) dX11_sellWeek_34 rfl rfl ?_
      refine wp_imul dX11_sellWeek_35 ?_
      refine wp_istore (i := 5) (Lo' := [some (.ref 0), some (.int x1), some (.int x2), some (.int x3), some (.int (nI 0)), some (.int ((nI 7) * x3))]) dX11_sellWeek_36 (by decide) rfl rfl ?_
      exact wp_mask [true, true, true, true, true, true] h
    · replace h := h.2 q
      refine wp_aload_n (i := 0) dX11_sellWeek_18 rfl rfl ?_
      refine wp_ldc lc_X11_85 dX11_sellWeek_19 ?_
      refine wp_callVI (vs := [.int (-1000000001 : Int32)]) (rest := []) dX11_sellWeek_21 mV_X11_error lm_X11_86 hR_0 rfl rfl rfl (Nat.le_of_ble_eq_true rfl) (CallI.mono h (fun y9 σ8 h => ?_))
      exact wp_ireturn dX11_sellWeek_24 rfl ⟨_, rfl, h⟩
set_option maxRecDepth 20000 in
set_option maxHeartbeats 2000000 in
theorem vc_Md_promise {E : KE} {d : Nat} {x1 : Int32} {x2 : Int32} {x3 : Int32} {σ : Sg} {K : Int32 → Sg → Prop} (h : CallI E shR d mX11_areTwo [.ref 0, .int x1, .int x2] σ (fun y2 σ1 => (y2 = 0 → CallI E shR d mX11_error [.ref 0, .int (-1000000001 : Int32)] σ1 (fun y4 σ3 => K y4 σ3)) ∧ (¬ y2 = 0 → CallI E shR d mX11_isDay [.int x3] σ1 (fun y6 σ5 => (¬ y6 = 0 → vp_in (nI 3) 552 ∧ ((¬ (σ5 1 (nI 3).toNatClampNeg) = (nI 8) → vp_in (nI 3) 552 ∧ (vp_in (nI 3) 552 ∧ (∀ σ7, σ7 = k_put σ5 1 (upd (σ5 1) (nI 3).toNatClampNeg ((σ5 1 (nI 3).toNatClampNeg) + (nI 1))) → vp_in ((nI 202) + ((nI 3) * (σ5 1 (nI 3).toNatClampNeg))) 552 ∧ (∀ σ9, σ9 = k_put σ7 1 (upd (σ7 1) ((nI 202) + ((nI 3) * (σ5 1 (nI 3).toNatClampNeg))).toNatClampNeg x1) → vp_in (((nI 202) + ((nI 3) * (σ5 1 (nI 3).toNatClampNeg))) + (nI 1)) 552 ∧ (∀ σ11, σ11 = k_put σ9 1 (upd (σ9 1) (((nI 202) + ((nI 3) * (σ5 1 (nI 3).toNatClampNeg))) + (nI 1)).toNatClampNeg x2) → vp_in (((nI 202) + ((nI 3) * (σ5 1 (nI 3).toNatClampNeg))) + (nI 2)) 552 ∧ (∀ σ13, σ13 = k_put σ11 1 (upd (σ11 1) (((nI 202) + ((nI 3) * (σ5 1 (nI 3).toNatClampNeg))) + (nI 2)).toNatClampNeg x3) → K (σ5 1 (nI 3).toNatClampNeg) σ13)))))) ∧ ((σ5 1 (nI 3).toNatClampNeg) = (nI 8) → CallI E shR d mX11_error [.ref 0, .int (-1000000004 : Int32)] σ5 (fun y16 σ15 => K y16 σ15)))) ∧ (y6 = 0 → CallI E shR d mX11_error [.ref 0, .int (-1000000001 : Int32)] σ5 (fun y18 σ17 => K y18 σ17)))))) : CallI E shR (d + 1) mX11_promise [.ref 0, .int x1, .int x2, .int x3] σ K := by
  refine wp_enter (Lo := [some (.ref 0), some (.int x1), some (.int x2), some (.int x3), none]) mp_X11_promise (Nat.le_of_ble_eq_true rfl) rfl ?_
  refine wp_aload_n (i := 0) dX11_promise_0 rfl rfl ?_
  refine wp_iload_n (i := 1) dX11_promise_1 rfl rfl ?_
  refine wp_iload_n (i := 2) dX11_promise_2 rfl rfl ?_
  refine wp_callVI (vs := [.int x1, .int x2]) (rest := []) dX11_promise_3 mV_X11_areTwo lm_X11_109 hR_0 rfl rfl rfl (Nat.le_of_ble_eq_true rfl) (CallI.mono h (fun y2 σ1 h => ?_))
  refine wp_ifeq (tgt := 16) dX11_promise_6 (by decide) ⟨fun q => ?_, fun q => ?_⟩
  · replace h := h.1 q
    refine wp_aload_n (i := 0) dX11_promise_16 rfl rfl ?_
    refine wp_ldc lc_X11_85 dX11_promise_17 ?_
    refine wp_callVI (vs := [.int (-1000000001 : Int32)]) (rest := []) dX11_promise_19 mV_X11_error lm_X11_86 hR_0 rfl rfl rfl (Nat.le_of_ble_eq_true rfl) (CallI.mono h (fun y4 σ3 h => ?_))
    exact wp_ireturn dX11_promise_22 rfl ⟨_, rfl, h⟩
  · replace h := h.2 q
    refine wp_iload_n (i := 3) dX11_promise_9 rfl rfl ?_
    refine wp_callSI (vs := [.int x3]) (rest := []) dX11_promise_10 mS_X11_isDay lm_X11_99 rfl rfl (Nat.le_of_ble_eq_true rfl) (CallI.mono h (fun y6 σ5 h => ?_))
    refine wp_ifne (tgt := 23) dX11_promise_13 (by decide) ⟨fun q => ?_, fun q => ?_⟩
    · replace h := h.1 q
      refine wp_aload_n (i := 0) dX11_promise_23 rfl rfl ?_
      refine wp_getR (t := 1) dX11_promise_24 lf_X11_9 hR_0 rfl ?_
      refine wp_iconst (v := nI 3) dX11_promise_27 rfl ?_
      refine wp_iald dX11_promise_28 hR_1 ⟨h.1, ?_⟩
      replace h := h.2
      refine wp_istore (i := 4) (Lo' := [some (.ref 0), some (.int x1), some (.int x2), some (.int x3), some (.int (σ5 1 (nI 3).toNatClampNeg))]) dX11_promise_29 (by decide) rfl rfl ?_
      refine wp_iload (i := 4) dX11_promise_31 rfl ?_
      refine wp_bipush (v := nI 8) dX11_promise_33 (by decide) ?_
      refine wp_icmpne (tgt := 45) dX11_promise_35 (by decide) ⟨fun q => ?_, fun q => ?_⟩
      · replace h := h.1 q
        refine wp_aload_n (i := 0) dX11_promise_45 rfl rfl ?_
        refine wp_getR (t := 1) dX11_promise_46 lf_X11_9 hR_0 rfl ?_
        refine wp_iconst (v := nI 3) dX11_promise_49 rfl ?_
        refine wp_dup2 dX11_promise_50 rfl rfl ?_
        refine wp_iald dX11_promise_51 hR_1 ⟨h.1, ?_⟩
        replace h := h.2
        refine wp_iconst (v := nI 1) dX11_promise_52 rfl ?_
        refine wp_iadd dX11_promise_53 ?_
        refine wp_iast dX11_promise_54 hR_1 ⟨h.1, ?_⟩
        refine wp_nm (fun σ7 e8 => ?_)
        replace h := h.2 σ7 e8
        refine wp_aload_n (i := 0) dX11_promise_55 rfl rfl ?_
        refine wp_getR (t := 1) dX11_promise_56 lf_X11_9 hR_0 rfl ?_
        refine wp_sipush (v := nI 202) dX11_promise_59 (by decide) ?_
        refine wp_iconst (v := nI 3) dX11_promise_62 rfl ?_
        refine wp_iload (i := 4) dX11_promise_63 rfl ?_
        refine wp_imul dX11_promise_65 ?_
        refine wp_iadd dX11_promise_66 ?_
        refine wp_iload_n (i := 1) dX11_promise_67 rfl rfl ?_
        refine wp_iast dX11_promise_68 hR_1 ⟨h.1, ?_⟩
        refine wp_nm (fun σ9 e10 => ?_)
        replace h := h.2 σ9 e10
        refine wp_aload_n (i := 0) dX11_promise_69 rfl rfl ?_
        refine wp_getR (t := 1) dX11_promise_70 lf_X11_9 hR_0 rfl ?_
        refine wp_sipush (v := nI 202) dX11_promise_73 (by decide) ?_
        refine wp_iconst (v := nI 3) dX11_promise_76 rfl ?_
        refine wp_iload (i := 4) dX11_promise_77 rfl ?_
        refine wp_imul dX11_promise_79 ?_
        refine wp_iadd dX11_promise_80 ?_
        refine wp_iconst (v := nI 1) dX11_promise_81 rfl ?_
        refine wp_iadd dX11_promise_82 ?_
        refine wp_iload_n (i := 2) dX11_promise_83 rfl rfl ?_
        refine wp_iast dX11_promise_84 hR_1 ⟨h.1, ?_⟩
        refine wp_nm (fun σ11 e12 => ?_)
        replace h := h.2 σ11 e12
        refine wp_aload_n (i := 0) dX11_promise_85 rfl rfl ?_
        refine wp_getR (t := 1) dX11_promise_86 lf_X11_9 hR_0 rfl ?_
        refine wp_sipush (v := nI 202) dX11_promise_89 (by decide) ?_
        refine wp_iconst (v := nI 3) dX11_promise_92 rfl ?_
        refine wp_iload (i := 4) dX11_promise_93 rfl ?_
        refine wp_imul dX11_promise_95 ?_
        refine wp_iadd dX11_promise_96 ?_
        refine wp_iconst (v := nI 2) dX11_promise_97 rfl ?_
        refine wp_iadd dX11_promise_98 ?_
        refine wp_iload_n (i := 3) dX11_promise_99 rfl rfl ?_
        refine wp_iast dX11_promise_100 hR_1 ⟨h.1, ?_⟩
        refine wp_nm (fun σ13 e14 => ?_)
        replace h := h.2 σ13 e14
        refine wp_iload (i := 4) dX11_promise_101 rfl ?_
        exact wp_ireturn dX11_promise_103 rfl ⟨_, rfl, h⟩
      · replace h := h.2 q
        refine wp_aload_n (i := 0) dX11_promise_38 rfl rfl ?_
        refine wp_ldc lc_X11_90 dX11_promise_39 ?_
        refine wp_callVI (vs := [.int (-1000000004 : Int32)]) (rest := []) dX11_promise_41 mV_X11_error lm_X11_86 hR_0 rfl rfl rfl (Nat.le_of_ble_eq_true rfl) (CallI.mono h (fun y16 σ15 h => ?_))
        exact wp_ireturn dX11_promise_44 rfl ⟨_, rfl, h⟩
    · replace h := h.2 q
      refine wp_aload_n (i := 0) dX11_promise_16 rfl rfl ?_
      refine wp_ldc lc_X11_85 dX11_promise_17 ?_
      refine wp_callVI (vs := [.int (-1000000001 : Int32)]) (rest := []) dX11_promise_19 mV_X11_error lm_X11_86 hR_0 rfl rfl rfl (Nat.le_of_ble_eq_true rfl) (CallI.mono h (fun y18 σ17 h => ?_))
      exact wp_ireturn dX11_promise_22 rfl ⟨_, rfl, h⟩
set_option maxRecDepth 20000 in
set_option maxHeartbeats 2000000 in
theorem vc_Md_said {E : KE} {d : Nat} {x1 : Int32} {x2 : Int32} {σ : Sg} {K : Int32 → Sg → Prop} (h : vp_in (((nI 202) + ((nI 3) * x1)) + x2) 552 ∧ (K (σ 1 (((nI 202) + ((nI 3) * x1)) + x2).toNatClampNeg) σ)) : CallI E shR d mX11_said [.ref 0, .int x1, .int x2] σ K := by
  refine wp_enter (Lo := [some (.ref 0), some (.int x1), some (.int x2)]) mp_X11_said (Nat.le_of_ble_eq_true rfl) rfl ?_
  refine wp_aload_n (i := 0) dX11_said_0 rfl rfl ?_
  refine wp_getR (t := 1) dX11_said_1 lf_X11_9 hR_0 rfl ?_
  refine wp_sipush (v := nI 202) dX11_said_4 (by decide) ?_
  refine wp_iconst (v := nI 3) dX11_said_7 rfl ?_
  refine wp_iload_n (i := 1) dX11_said_8 rfl rfl ?_
  refine wp_imul dX11_said_9 ?_
  refine wp_iadd dX11_said_10 ?_
  refine wp_iload_n (i := 2) dX11_said_11 rfl rfl ?_
  refine wp_iadd dX11_said_12 ?_
  refine wp_iald dX11_said_13 hR_1 ⟨h.1, ?_⟩
  replace h := h.2
  exact wp_ireturn dX11_said_14 rfl ⟨_, rfl, h⟩
set_option maxRecDepth 20000 in
set_option maxHeartbeats 2000000 in
theorem vc_Md_isUp {E : KE} {d : Nat} {x1 : Int32} {x2 : Int32} {σ : Sg} {K : Int32 → Sg → Prop} (h : CallI E shR d mX11_livesOf [.ref 0, .int x1, .int x2] σ (fun y2 σ1 => (y2 ≤ 0 → K (nI 0) σ1) ∧ (¬ y2 ≤ 0 → K (nI 1) σ1))) : CallI E shR (d + 1) mX11_isUp [.ref 0, .int x1, .int x2] σ K := by
  refine wp_enter (Lo := [some (.ref 0), some (.int x1), some (.int x2)]) mp_X11_isUp (Nat.le_of_ble_eq_true rfl) rfl ?_
  refine wp_aload_n (i := 0) dX11_isUp_0 rfl rfl ?_
  refine wp_iload_n (i := 1) dX11_isUp_1 rfl rfl ?_
  refine wp_iload_n (i := 2) dX11_isUp_2 rfl rfl ?_
  refine wp_callVI (vs := [.int x1, .int x2]) (rest := []) dX11_isUp_3 mV_X11_livesOf lm_X11_69 hR_0 rfl rfl rfl (Nat.le_of_ble_eq_true rfl) (CallI.mono h (fun y2 σ1 h => ?_))
  refine wp_ifle (tgt := 13) dX11_isUp_6 (by decide) ⟨fun q => ?_, fun q => ?_⟩
  · replace h := h.1 q
    refine wp_iconst (v := nI 0) dX11_isUp_13 rfl ?_
    exact wp_zreturn dX11_isUp_14 rfl ⟨rfl, _, rfl, h⟩
  · replace h := h.2 q
    refine wp_iconst (v := nI 1) dX11_isUp_9 rfl ?_
    refine wp_goto (tgt := 14) dX11_isUp_10 (by decide) ?_
    exact wp_zreturn dX11_isUp_14 rfl ⟨rfl, _, rfl, h⟩
set_option maxRecDepth 20000 in
set_option maxHeartbeats 2000000 in
theorem vc_Md_isKept {E : KE} {d : Nat} {x1 : Int32} {σ : Sg} {K : Int32 → Sg → Prop} (h : CallI E shR d mX11_said [.ref 0, .int x1, .int (nI 2)] σ (fun y2 σ1 => CallI E shR d mX11_said [.ref 0, .int x1, .int (nI 0)] σ1 (fun y4 σ3 => CallI E shR d mX11_isUp [.ref 0, .int y4, .int y2] σ3 (fun y6 σ5 => (y6 = 0 → K (nI 0) σ5) ∧ (¬ y6 = 0 → CallI E shR d mX11_said [.ref 0, .int x1, .int (nI 1)] σ5 (fun y8 σ7 => CallI E shR d mX11_isUp [.ref 0, .int y8, .int y2] σ7 (fun y10 σ9 => (y10 = 0 → K (nI 0) σ9) ∧ (¬ y10 = 0 → K (nI 1) σ9)))))))) : CallI E shR (d + 1) mX11_isKept [.ref 0, .int x1] σ K := by
  refine wp_enter (Lo := [some (.ref 0), some (.int x1), none]) mp_X11_isKept (Nat.le_of_ble_eq_true rfl) rfl ?_
  refine wp_aload_n (i := 0) dX11_isKept_0 rfl rfl ?_
  refine wp_iload_n (i := 1) dX11_isKept_1 rfl rfl ?_
  refine wp_iconst (v := nI 2) dX11_isKept_2 rfl ?_
  refine wp_callVI (vs := [.int x1, .int (nI 2)]) (rest := []) dX11_isKept_3 mV_X11_said lm_X11_76 hR_0 rfl rfl rfl (Nat.le_of_ble_eq_true rfl) (CallI.mono h (fun y2 σ1 h => ?_))
  refine wp_istore_n (i := 2) (Lo' := [some (.ref 0), some (.int x1), some (.int y2)]) dX11_isKept_6 rfl (by decide) rfl rfl ?_
  refine wp_aload_n (i := 0) dX11_isKept_7 rfl rfl ?_
  refine wp_aload_n (i := 0) dX11_isKept_8 rfl rfl ?_
  refine wp_iload_n (i := 1) dX11_isKept_9 rfl rfl ?_
  refine wp_iconst (v := nI 0) dX11_isKept_10 rfl ?_
  refine wp_callVI (vs := [.int x1, .int (nI 0)]) (rest := [.ref 0]) dX11_isKept_11 mV_X11_said lm_X11_76 hR_0 rfl rfl rfl (Nat.le_of_ble_eq_true rfl) (CallI.mono h (fun y4 σ3 h => ?_))
  refine wp_iload_n (i := 2) dX11_isKept_14 rfl rfl ?_
  refine wp_callVI (vs := [.int y4, .int y2]) (rest := []) dX11_isKept_15 mV_X11_isUp lm_X11_72 hR_0 rfl rfl rfl (Nat.le_of_ble_eq_true rfl) (CallI.mono h (fun y6 σ5 h => ?_))
  refine wp_ifeq (tgt := 39) dX11_isKept_18 (by decide) ⟨fun q => ?_, fun q => ?_⟩
  · replace h := h.1 q
    refine wp_iconst (v := nI 0) dX11_isKept_39 rfl ?_
    exact wp_zreturn dX11_isKept_40 rfl ⟨rfl, _, rfl, h⟩
  · replace h := h.2 q
    refine wp_aload_n (i := 0) dX11_isKept_21 rfl rfl ?_
    refine wp_aload_n (i := 0) dX11_isKept_22 rfl rfl ?_
    refine wp_iload_n (i := 1) dX11_isKept_23 rfl rfl ?_
    refine wp_iconst (v := nI 1) dX11_isKept_24 rfl ?_
    refine wp_callVI (vs := [.int x1, .int (nI 1)]) (rest := [.ref 0]) dX11_isKept_25 mV_X11_said lm_X11_76 hR_0 rfl rfl rfl (Nat.le_of_ble_eq_true rfl) (CallI.mono h (fun y8 σ7 h => ?_))
    refine wp_iload_n (i := 2) dX11_isKept_28 rfl rfl ?_
    refine wp_callVI (vs := [.int y8, .int y2]) (rest := []) dX11_isKept_29 mV_X11_isUp lm_X11_72 hR_0 rfl rfl rfl (Nat.le_of_ble_eq_true rfl) (CallI.mono h (fun y10 σ9 h => ?_))
    refine wp_ifeq (tgt := 39) dX11_isKept_32 (by decide) ⟨fun q => ?_, fun q => ?_⟩
    · replace h := h.1 q
      refine wp_iconst (v := nI 0) dX11_isKept_39 rfl ?_
      exact wp_zreturn dX11_isKept_40 rfl ⟨rfl, _, rfl, h⟩
    · replace h := h.2 q
      refine wp_iconst (v := nI 1) dX11_isKept_35 rfl ?_
      refine wp_goto (tgt := 40) dX11_isKept_36 (by decide) ?_
      exact wp_zreturn dX11_isKept_40 rfl ⟨rfl, _, rfl, h⟩
set_option maxRecDepth 20000 in
set_option maxHeartbeats 2000000 in
theorem vc_Md_promiseIs {E : KE} {d : Nat} {x1 : Int32} {x2 : Int32} {σ : Sg} {K : Int32 → Sg → Prop} (h : vp_in (nI 3) 552 ∧ (CallI E shR d mX11_in [.int x1, .int (nI 0), .int ((σ 1 (nI 3).toNatClampNeg) - (nI 1))] σ (fun y2 σ1 => (y2 = 0 → CallI E shR d mX11_error [.ref 0, .int (-1000000001 : Int32)] σ1 (fun y4 σ3 => K y4 σ3)) ∧ (¬ y2 = 0 → CallI E shR d mX11_in [.int x2, .int (nI 0), .int (nI 3)] σ1 (fun y6 σ5 => (¬ y6 = 0 → ((nI 3) ≤ x2 → CallI E shR d mX11_isKept [.ref 0, .int x1] σ5 (fun y8 σ7 => (y8 = 0 → K (nI 0) σ7) ∧ (¬ y8 = 0 → K (nI 1) σ7))) ∧ (¬ (nI 3) ≤ x2 → CallI E shR d mX11_said [.ref 0, .int x1, .int x2] σ5 (fun y10 σ9 => K y10 σ9))) ∧ (y6 = 0 → CallI E shR d mX11_error [.ref 0, .int (-1000000001 : Int32)] σ5 (fun y12 σ11 => K y12 σ11))))))) : CallI E shR (d + 1) mX11_promiseIs [.ref 0, .int x1, .int x2] σ K := by
  refine wp_enter (Lo := [some (.ref 0), some (.int x1), some (.int x2)]) mp_X11_promiseIs (Nat.le_of_ble_eq_true rfl) rfl ?_
  refine wp_iload_n (i := 1) dX11_promiseIs_0 rfl rfl ?_
  refine wp_iconst (v := nI 0) dX11_promiseIs_1 rfl ?_
  refine wp_aload_n (i := 0) dX11_promiseIs_2 rfl rfl ?_
  refine wp_getR (t := 1) dX11_promiseIs_3 lf_X11_9 hR_0 rfl ?_
  refine wp_iconst (v := nI 3) dX11_promiseIs_6 rfl ?_
  refine wp_iald dX11_promiseIs_7 hR_1 ⟨h.1, ?_⟩
  replace h := h.2
  refine wp_iconst (v := nI 1) dX11_promiseIs_8 rfl ?_
  refine wp_isub dX11_promiseIs_9 ?_
  refine wp_callSI (vs := [.int x1, .int (nI 0), .int ((σ 1 (nI 3).toNatClampNeg) - (nI 1))]) (rest := []) dX11_promiseIs_10 mS_X11_in lm_X11_53 rfl rfl (Nat.le_of_ble_eq_true rfl) (CallI.mono h (fun y2 σ1 h => ?_))
  refine wp_ifeq (tgt := 25) dX11_promiseIs_13 (by decide) ⟨fun q => ?_, fun q => ?_⟩
  · replace h := h.1 q
    refine wp_aload_n (i := 0) dX11_promiseIs_25 rfl rfl ?_
    refine wp_ldc lc_X11_85 dX11_promiseIs_26 ?_
    refine wp_callVI (vs := [.int (-1000000001 : Int32)]) (rest := []) dX11_promiseIs_28 mV_X11_error lm_X11_86 hR_0 rfl rfl rfl (Nat.le_of_ble_eq_true rfl) (CallI.mono h (fun y4 σ3 h => ?_))
    exact wp_ireturn dX11_promiseIs_31 rfl ⟨_, rfl, h⟩
  · replace h := h.2 q
    refine wp_iload_n (i := 2) dX11_promiseIs_16 rfl rfl ?_
    refine wp_iconst (v := nI 0) dX11_promiseIs_17 rfl ?_
    refine wp_iconst (v := nI 3) dX11_promiseIs_18 rfl ?_
    refine wp_callSI (vs := [.int x2, .int (nI 0), .int (nI 3)]) (rest := []) dX11_promiseIs_19 mS_X11_in lm_X11_53 rfl rfl (Nat.le_of_ble_eq_true rfl) (CallI.mono h (fun y6 σ5 h => ?_))
    refine wp_ifne (tgt := 32) dX11_promiseIs_22 (by decide) ⟨fun q => ?_, fun q => ?_⟩
    · replace h := h.1 q
      refine wp_iload_n (i := 2) dX11_promiseIs_32 rfl rfl ?_
      refine wp_iconst (v := nI 3) dX11_promiseIs_33 rfl ?_
      refine wp_icmpge (tgt := 46) dX11_promiseIs_34 (by decide) ⟨fun q => ?_, fun q => ?_⟩
      · replace h := h.1 q
        refine wp_aload_n (i := 0) dX11_promiseIs_46 rfl rfl ?_
        refine wp_iload_n (i := 1) dX11_promiseIs_47 rfl rfl ?_
        refine wp_callVI (vs := [.int x1]) (rest := []) dX11_promiseIs_48 mV_X11_isKept lm_X11_79 hR_0 rfl rfl rfl (Nat.le_of_ble_eq_true rfl) (CallI.mono h (fun y8 σ7 h => ?_))
        refine wp_ifeq (tgt := 58) dX11_promiseIs_51 (by decide) ⟨fun q => ?_, fun q => ?_⟩
        · replace h := h.1 q
          refine wp_iconst (v := nI 0) dX11_promiseIs_58 rfl ?_
          exact wp_ireturn dX11_promiseIs_59 rfl ⟨_, rfl, h⟩
        · replace h := h.2 q
          refine wp_iconst (v := nI 1) dX11_promiseIs_54 rfl ?_
          refine wp_goto (tgt := 59) dX11_promiseIs_55 (by decide) ?_
          exact wp_ireturn dX11_promiseIs_59 rfl ⟨_, rfl, h⟩
      · replace h := h.2 q
        refine wp_aload_n (i := 0) dX11_promiseIs_37 rfl rfl ?_
        refine wp_iload_n (i := 1) dX11_promiseIs_38 rfl rfl ?_
        refine wp_iload_n (i := 2) dX11_promiseIs_39 rfl rfl ?_
        refine wp_callVI (vs := [.int x1, .int x2]) (rest := []) dX11_promiseIs_40 mV_X11_said lm_X11_76 hR_0 rfl rfl rfl (Nat.le_of_ble_eq_true rfl) (CallI.mono h (fun y10 σ9 h => ?_))
        refine wp_goto (tgt := 59) dX11_promiseIs_43 (by decide) ?_
        exact wp_ireturn dX11_promiseIs_59 rfl ⟨_, rfl, h⟩
    · replace h := h.2 q
      refine wp_aload_n (i := 0) dX11_promiseIs_25 rfl rfl ?_
      refine wp_ldc lc_X11_85 dX11_promiseIs_26 ?_
      refine wp_callVI (vs := [.int (-1000000001 : Int32)]) (rest := []) dX11_promiseIs_28 mV_X11_error lm_X11_86 hR_0 rfl rfl rfl (Nat.le_of_ble_eq_true rfl) (CallI.mono h (fun y12 σ11 h => ?_))
      exact wp_ireturn dX11_promiseIs_31 rfl ⟨_, rfl, h⟩
set_option maxRecDepth 20000 in
set_option maxHeartbeats 2000000 in
theorem vb_Md_feed_41 {E : KE} {d : Nat} {x1 : Int64} {x3 : Int32} {x4 : Int32} {σ : Sg} {K : Int32 → Sg → Prop} (h : (x3 ≤ x4 → vp_in (nI 8) 552 ∧ (K (σ 1 (nI 8).toNatClampNeg) σ)) ∧ (¬ x3 ≤ x4 → vp_in (nI 8) 552 ∧ (vp_in ((nI 226) + (σ 1 (nI 8).toNatClampNeg)) 552 ∧ (∀ σ1, σ1 = k_put σ 1 (upd (σ 1) ((nI 226) + (σ 1 (nI 8).toNatClampNeg)).toNatClampNeg (((x1 >>> (((nI 8) * x4).toInt64 &&& 63)) &&& (lN 255)).toInt32)) → vp_in (nI 8) 552 ∧ (vp_in (nI 8) 552 ∧ (∀ σ3, σ3 = k_put σ1 1 (upd (σ1 1) (nI 8).toNatClampNeg ((σ1 1 (nI 8).toNatClampNeg) + (nI 1))) → WP E shR mX11_feed (d + 1) 41 [some (.ref 0), some (.long x1), none, some (.int x3), some (.int (x4 + nI 1))] [] σ3 (k_qi K))))))) : WP E shR mX11_feed (d + 1) 41 [some (.ref 0), some (.long x1), none, some (.int x3), some (.int x4)] [] σ (k_qi K) := by
  refine wp_iload (i := 4) dX11_feed_41 rfl ?_
  refine wp_iload_n (i := 3) dX11_feed_43 rfl rfl ?_
  refine wp_icmpge (tgt := 92) dX11_feed_44 (by decide) ⟨fun q => ?_, fun q => ?_⟩
  · replace h := h.1 q
    refine wp_aload_n (i := 0) dX11_feed_92 rfl rfl ?_
    refine wp_getR (t := 1) dX11_feed_93 lf_X11_9 hR_0 rfl ?_
    refine wp_bipush (v := nI 8) dX11_feed_96 (by decide) ?_
    refine wp_iald dX11_feed_98 hR_1 ⟨h.1, ?_⟩
    replace h := h.2
    exact wp_ireturn dX11_feed_99 rfl ⟨_, rfl, h⟩
  · replace h := h.2 q
    refine wp_aload_n (i := 0) dX11_feed_47 rfl rfl ?_
    refine wp_getR (t := 1) dX11_feed_48 lf_X11_9 hR_0 rfl ?_
    refine wp_sipush (v := nI 226) dX11_feed_51 (by decide) ?_
    refine wp_aload_n (i := 0) dX11_feed_54 rfl rfl ?_
    refine wp_getR (t := 1) dX11_feed_55 lf_X11_9 hR_0 rfl ?_
    refine wp_bipush (v := nI 8) dX11_feed_58 (by decide) ?_
    refine wp_iald dX11_feed_60 hR_1 ⟨h.1, ?_⟩
    replace h := h.2
    refine wp_iadd dX11_feed_61 ?_
    refine wp_lload_n (i := 1) dX11_feed_62 rfl rfl ?_
    refine wp_bipush (v := nI 8) dX11_feed_63 (by decide) ?_
    refine wp_iload (i := 4) dX11_feed_65 rfl ?_
    refine wp_imul dX11_feed_67 ?_
    refine wp_lshr dX11_feed_68 ?_
    refine wp_ldc2 lc_X11_125 dX11_feed_69 ?_
    refine wp_land dX11_feed_72 ?_
    refine wp_l2i dX11_feed_73 ?_
    refine wp_iast dX11_feed_74 hR_1 ⟨h.1, ?_⟩
    refine wp_nm (fun σ1 e2 => ?_)
    replace h := h.2 σ1 e2
    refine wp_aload_n (i := 0) dX11_feed_75 rfl rfl ?_
    refine wp_getR (t := 1) dX11_feed_76 lf_X11_9 hR_0 rfl ?_
    refine wp_bipush (v := nI 8) dX11_feed_79 (by decide) ?_
    refine wp_dup2 dX11_feed_81 rfl rfl ?_
    refine wp_iald dX11_feed_82 hR_1 ⟨h.1, ?_⟩
    replace h := h.2
    refine wp_iconst (v := nI 1) dX11_feed_83 rfl ?_
    refine wp_iadd dX11_feed_84 ?_
    refine wp_iast dX11_feed_85 hR_1 ⟨h.1, ?_⟩
    refine wp_nm (fun σ3 e4 => ?_)
    replace h := h.2 σ3 e4
    refine wp_iinc (i := 4) (v := x4 + nI 1) (Lo' := [some (.ref 0), some (.long x1), none, some (.int x3), some (.int (x4 + nI 1))]) dX11_feed_86 rfl (by rfl) (by decide) rfl rfl ?_
    refine wp_goto (tgt := 41) dX11_feed_89 (by decide) ?_
    exact wp_mask [true, true, false, true, true] h
set_option maxRecDepth 20000 in
set_option maxHeartbeats 2000000 in
theorem vc_Md_feed {E : KE} {d : Nat} {x1 : Int64} {x3 : Int32} {σ : Sg} {K : Int32 → Sg → Prop} (h : CallI E shR d mX11_in [.int x3, .int (nI 1), .int (nI 8)] σ (fun y2 σ1 => (¬ y2 = 0 → vp_in (nI 8) 552 ∧ ((((σ1 1 (nI 8).toNatClampNeg) + x3) ≤ (nI 60) → WP E shR mX11_feed (d + 1) 41 [some (.ref 0), some (.long x1), none, some (.int x3), some (.int (nI 0))] [] σ1 (k_qi K)) ∧ (¬ ((σ1 1 (nI 8).toNatClampNeg) + x3) ≤ (nI 60) → CallI E shR d mX11_error [.ref 0, .int (-1000000004 : Int32)] σ1 (fun y4 σ3 => K y4 σ3)))) ∧ (y2 = 0 → CallI E shR d mX11_error [.ref 0, .int (-1000000001 : Int32)] σ1 (fun y6 σ5 => K y6 σ5)))) : CallI E shR (d + 1) mX11_feed [.ref 0, .long x1, .int x3] σ K := by
  refine wp_enter (Lo := [some (.ref 0), some (.long x1), none, some (.int x3), none]) mp_X11_feed (Nat.le_of_ble_eq_true rfl) rfl ?_
  refine wp_iload_n (i := 3) dX11_feed_0 rfl rfl ?_
  refine wp_iconst (v := nI 1) dX11_feed_1 rfl ?_
  refine wp_bipush (v := nI 8) dX11_feed_2 (by decide) ?_
  refine wp_callSI (vs := [.int x3, .int (nI 1), .int (nI 8)]) (rest := []) dX11_feed_4 mS_X11_in lm_X11_53 rfl rfl (Nat.le_of_ble_eq_true rfl) (CallI.mono h (fun y2 σ1 h => ?_))
  refine wp_ifne (tgt := 17) dX11_feed_7 (by decide) ⟨fun q => ?_, fun q => ?_⟩
  · replace h := h.1 q
    refine wp_aload_n (i := 0) dX11_feed_17 rfl rfl ?_
    refine wp_getR (t := 1) dX11_feed_18 lf_X11_9 hR_0 rfl ?_
    refine wp_bipush (v := nI 8) dX11_feed_21 (by decide) ?_
    refine wp_iald dX11_feed_23 hR_1 ⟨h.1, ?_⟩
    replace h := h.2
    refine wp_iload_n (i := 3) dX11_feed_24 rfl rfl ?_
    refine wp_iadd dX11_feed_25 ?_
    refine wp_bipush (v := nI 60) dX11_feed_26 (by decide) ?_
    refine wp_icmple (tgt := 38) dX11_feed_28 (by decide) ⟨fun q => ?_, fun q => ?_⟩
    · replace h := h.1 q
      refine wp_iconst (v := nI 0) dX11_feed_38 rfl ?_
      refine wp_istore (i := 4) (Lo' := [some (.ref 0), some (.long x1), none, some (.int x3), some (.int (nI 0))]) dX11_feed_39 (by decide) rfl rfl ?_
      exact wp_mask [true, true, false, true, true] h
    · replace h := h.2 q
      refine wp_aload_n (i := 0) dX11_feed_31 rfl rfl ?_
      refine wp_ldc lc_X11_90 dX11_feed_32 ?_
      refine wp_callVI (vs := [.int (-1000000004 : Int32)]) (rest := []) dX11_feed_34 mV_X11_error lm_X11_86 hR_0 rfl rfl rfl (Nat.le_of_ble_eq_true rfl) (CallI.mono h (fun y4 σ3 h => ?_))
      exact wp_ireturn dX11_feed_37 rfl ⟨_, rfl, h⟩
  · replace h := h.2 q
    refine wp_aload_n (i := 0) dX11_feed_10 rfl rfl ?_
    refine wp_ldc lc_X11_85 dX11_feed_11 ?_
    refine wp_callVI (vs := [.int (-1000000001 : Int32)]) (rest := []) dX11_feed_13 mV_X11_error lm_X11_86 hR_0 rfl rfl rfl (Nat.le_of_ble_eq_true rfl) (CallI.mono h (fun y6 σ5 h => ?_))
    exact wp_ireturn dX11_feed_16 rfl ⟨_, rfl, h⟩
set_option maxRecDepth 20000 in
set_option maxHeartbeats 2000000 in
theorem vc_Md_look {E : KE} {d : Nat} {σ : Sg} {K : Int32 → Sg → Prop} (h : vp_in (nI 8) 552 ∧ (((σ 1 (nI 8).toNatClampNeg) ≤ (σ 0 13) → K (-1 : Int32) σ) ∧ (¬ (σ 1 (nI 8).toNatClampNeg) ≤ (σ 0 13) → vp_in ((nI 226) + (σ 0 13)) 552 ∧ (K (σ 1 ((nI 226) + (σ 0 13)).toNatClampNeg) σ)))) : CallI E shR d mX11_look [.ref 0] σ K := by
  refine wp_enter (Lo := [some (.ref 0)]) mp_X11_look (Nat.le_of_ble_eq_true rfl) rfl ?_
  refine wp_aload_n (i := 0) dX11_look_0 rfl rfl ?_
  refine wp_getI dX11_look_1 lf_X11_127 hR_0 rfl ?_
  refine wp_aload_n (i := 0) dX11_look_4 rfl rfl ?_
  refine wp_getR (t := 1) dX11_look_5 lf_X11_9 hR_0 rfl ?_
  refine wp_bipush (v := nI 8) dX11_look_8 (by decide) ?_
  refine wp_iald dX11_look_10 hR_1 ⟨h.1, ?_⟩
  replace h := h.2
  refine wp_icmpge (tgt := 30) dX11_look_11 (by decide) ⟨fun q => ?_, fun q => ?_⟩
  · replace h := h.1 q
    refine wp_iconst (v := (-1 : Int32)) dX11_look_30 rfl ?_
    exact wp_ireturn dX11_look_31 rfl ⟨_, rfl, h⟩
  · replace h := h.2 q
    refine wp_aload_n (i := 0) dX11_look_14 rfl rfl ?_
    refine wp_getR (t := 1) dX11_look_15 lf_X11_9 hR_0 rfl ?_
    refine wp_sipush (v := nI 226) dX11_look_18 (by decide) ?_
    refine wp_aload_n (i := 0) dX11_look_21 rfl rfl ?_
    refine wp_getI dX11_look_22 lf_X11_127 hR_0 rfl ?_
    refine wp_iadd dX11_look_25 ?_
    refine wp_iald dX11_look_26 hR_1 ⟨h.1, ?_⟩
    replace h := h.2
    refine wp_goto (tgt := 31) dX11_look_27 (by decide) ?_
    exact wp_ireturn dX11_look_31 rfl ⟨_, rfl, h⟩
set_option maxRecDepth 20000 in
set_option maxHeartbeats 2000000 in
theorem vc_Md_nameOf {E : KE} {d : Nat} {x1 : Int32} {σ : Sg} {K : Int32 → Sg → Prop} (h : (x1 = nI 97 → ((σ 0 16) = (nI 1) → (¬ x1 = (nI 97) → (¬ x1 = (nI 116) → K (nI 2) σ) ∧ (x1 = (nI 116) → K (nI 1) σ)) ∧ (x1 = (nI 97) → K (nI 0) σ)) ∧ (¬ (σ 0 16) = (nI 1) → K (-1 : Int32) σ)) ∧ (x1 = nI 100 → ((σ 0 16) = 0 → (¬ x1 = (nI 100) → (¬ x1 = (nI 119) → K (nI 2) σ) ∧ (x1 = (nI 119) → K (nI 1) σ)) ∧ (x1 = (nI 100) → K (nI 0) σ)) ∧ (¬ (σ 0 16) = 0 → K (-1 : Int32) σ)) ∧ (x1 = nI 104 → ((σ 0 16) = 0 → (¬ x1 = (nI 100) → (¬ x1 = (nI 119) → K (nI 2) σ) ∧ (x1 = (nI 119) → K (nI 1) σ)) ∧ (x1 = (nI 100) → K (nI 0) σ)) ∧ (¬ (σ 0 16) = 0 → K (-1 : Int32) σ)) ∧ (x1 = nI 109 → ((σ 0 16) = (nI 1) → (¬ x1 = (nI 97) → (¬ x1 = (nI 116) → K (nI 2) σ) ∧ (x1 = (nI 116) → K (nI 1) σ)) ∧ (x1 = (nI 97) → K (nI 0) σ)) ∧ (¬ (σ 0 16) = (nI 1) → K (-1 : Int32) σ)) ∧ (x1 = nI 116 → ((σ 0 16) = (nI 1) → (¬ x1 = (nI 97) → (¬ x1 = (nI 116) → K (nI 2) σ) ∧ (x1 = (nI 116) → K (nI 1) σ)) ∧ (x1 = (nI 97) → K (nI 0) σ)) ∧ (¬ (σ 0 16) = (nI 1) → K (-1 : Int32) σ)) ∧ (x1 = nI 119 → ((σ 0 16) = 0 → (¬ x1 = (nI 100) → (¬ x1 = (nI 119) → K (nI 2) σ) ∧ (x1 = (nI 119) → K (nI 1) σ)) ∧ (x1 = (nI 100) → K (nI 0) σ)) ∧ (¬ (σ 0 16) = 0 → K (-1 : Int32) σ)) ∧ (¬ x1 = nI 97 → ¬ x1 = nI 100 → ¬ x1 = nI 104 → ¬ x1 = nI 109 → ¬ x1 = nI 116 → ¬ x1 = nI 119 → K (-1 : Int32) σ)) : CallI E shR d mX11_nameOf [.ref 0, .int x1] σ K := by
  refine wp_enter (Lo := [some (.ref 0), some (.int x1)]) mp_X11_nameOf (Nat.le_of_ble_eq_true rfl) rfl ?_
  refine wp_iload_n (i := 1) dX11_nameOf_0 rfl rfl ?_
  rcases Classical.em (x1 = nI 97) with q0 | q0
  · replace h := h.1 q0
    refine wp_lsw (off := 92) (tgt := 93) dX11_nameOf_1 (by decide) (by rw [q0]; decide) (by decide) ?_
    refine wp_aload_n (i := 0) dX11_nameOf_93 rfl rfl ?_
    refine wp_getI dX11_nameOf_94 lf_X11_134 hR_0 rfl ?_
    refine wp_iconst (v := nI 1) dX11_nameOf_97 rfl ?_
    refine wp_icmpeq (tgt := 105) dX11_nameOf_98 (by decide) ⟨fun q => ?_, fun q => ?_⟩
    · replace h := h.1 q
      refine wp_iload_n (i := 1) dX11_nameOf_105 rfl rfl ?_
      refine wp_bipush (v := nI 97) dX11_nameOf_106 (by decide) ?_
      refine wp_icmpne (tgt := 115) dX11_nameOf_108 (by decide) ⟨fun q => ?_, fun q => ?_⟩
      · replace h := h.1 q
        refine wp_iload_n (i := 1) dX11_nameOf_115 rfl rfl ?_
        refine wp_bipush (v := nI 116) dX11_nameOf_116 (by decide) ?_
        refine wp_icmpne (tgt := 125) dX11_nameOf_118 (by decide) ⟨fun q => ?_, fun q => ?_⟩
        · replace h := h.1 q
          refine wp_iconst (v := nI 2) dX11_nameOf_125 rfl ?_
          exact wp_ireturn dX11_nameOf_126 rfl ⟨_, rfl, h⟩
        · replace h := h.2 q
          refine wp_iconst (v := nI 1) dX11_nameOf_121 rfl ?_
          refine wp_goto (tgt := 126) dX11_nameOf_122 (by decide) ?_
          exact wp_ireturn dX11_nameOf_126 rfl ⟨_, rfl, h⟩
      · replace h := h.2 q
        refine wp_iconst (v := nI 0) dX11_nameOf_111 rfl ?_
        refine wp_goto (tgt := 126) dX11_nameOf_112 (by decide) ?_
        exact wp_ireturn dX11_nameOf_126 rfl ⟨_, rfl, h⟩
    · replace h := h.2 q
      refine wp_iconst (v := (-1 : Int32)) dX11_nameOf_101 rfl ?_
      refine wp_goto (tgt := 126) dX11_nameOf_102 (by decide) ?_
      exact wp_ireturn dX11_nameOf_126 rfl ⟨_, rfl, h⟩
  rcases Classical.em (x1 = nI 100) with q1 | q1
  · replace h := h.2.1 q1
    refine wp_lsw (off := 59) (tgt := 60) dX11_nameOf_1 (by decide) (by rw [q1]; decide) (by decide) ?_
    refine wp_aload_n (i := 0) dX11_nameOf_60 rfl rfl ?_
    refine wp_getI dX11_nameOf_61 lf_X11_134 hR_0 rfl ?_
    refine wp_ifeq (tgt := 71) dX11_nameOf_64 (by decide) ⟨fun q => ?_, fun q => ?_⟩
    · replace h := h.1 q
      refine wp_iload_n (i := 1) dX11_nameOf_71 rfl rfl ?_
      refine wp_bipush (v := nI 100) dX11_nameOf_72 (by decide) ?_
      refine wp_icmpne (tgt := 81) dX11_nameOf_74 (by decide) ⟨fun q => ?_, fun q => ?_⟩
      · replace h := h.1 q
        refine wp_iload_n (i := 1) dX11_nameOf_81 rfl rfl ?_
        refine wp_bipush (v := nI 119) dX11_nameOf_82 (by decide) ?_
        refine wp_icmpne (tgt := 91) dX11_nameOf_84 (by decide) ⟨fun q => ?_, fun q => ?_⟩
        · replace h := h.1 q
          refine wp_iconst (v := nI 2) dX11_nameOf_91 rfl ?_
          exact wp_ireturn dX11_nameOf_92 rfl ⟨_, rfl, h⟩
        · replace h := h.2 q
          refine wp_iconst (v := nI 1) dX11_nameOf_87 rfl ?_
          refine wp_goto (tgt := 92) dX11_nameOf_88 (by decide) ?_
          exact wp_ireturn dX11_nameOf_92 rfl ⟨_, rfl, h⟩
      · replace h := h.2 q
        refine wp_iconst (v := nI 0) dX11_nameOf_77 rfl ?_
        refine wp_goto (tgt := 92) dX11_nameOf_78 (by decide) ?_
        exact wp_ireturn dX11_nameOf_92 rfl ⟨_, rfl, h⟩
    · replace h := h.2 q
      refine wp_iconst (v := (-1 : Int32)) dX11_nameOf_67 rfl ?_
      refine wp_goto (tgt := 92) dX11_nameOf_68 (by decide) ?_
      exact wp_ireturn dX11_nameOf_92 rfl ⟨_, rfl, h⟩
  rcases Classical.em (x1 = nI 104) with q2 | q2
  · replace h := h.2.2.1 q2
    refine wp_lsw (off := 59) (tgt := 60) dX11_nameOf_1 (by decide) (by rw [q2]; decide) (by decide) ?_
    refine wp_aload_n (i := 0) dX11_nameOf_60 rfl rfl ?_
    refine wp_getI dX11_nameOf_61 lf_X11_134 hR_0 rfl ?_
    refine wp_ifeq (tgt := 71) dX11_nameOf_64 (by decide) ⟨fun q => ?_, fun q => ?_⟩
    · replace h := h.1 q
      refine wp_iload_n (i := 1) dX11_nameOf_71 rfl rfl ?_
      refine wp_bipush (v := nI 100) dX11_nameOf_72 (by decide) ?_
      refine wp_icmpne (tgt := 81) dX11_nameOf_74 (by decide) ⟨fun q => ?_, fun q => ?_⟩
      · replace h := h.1 q
        refine wp_iload_n (i := 1) dX11_nameOf_81 rfl rfl ?_
        refine wp_bipush (v := nI 119) dX11_nameOf_82 (by decide) ?_
        refine wp_icmpne (tgt := 91) dX11_nameOf_84 (by decide) ⟨fun q => ?_, fun q => ?_⟩
        · replace h := h.1 q
          refine wp_iconst (v := nI 2) dX11_nameOf_91 rfl ?_
          exact wp_ireturn dX11_nameOf_92 rfl ⟨_, rfl, h⟩
        · replace h := h.2 q
          refine wp_iconst (v := nI 1) dX11_nameOf_87 rfl ?_
          refine wp_goto (tgt := 92) dX11_nameOf_88 (by decide) ?_
          exact wp_ireturn dX11_nameOf_92 rfl ⟨_, rfl, h⟩
      · replace h := h.2 q
        refine wp_iconst (v := nI 0) dX11_nameOf_77 rfl ?_
        refine wp_goto (tgt := 92) dX11_nameOf_78 (by decide) ?_
        exact wp_ireturn dX11_nameOf_92 rfl ⟨_, rfl, h⟩
    · replace h := h.2 q
      refine wp_iconst (v := (-1 : Int32)) dX11_nameOf_67 rfl ?_
      refine wp_goto (tgt := 92) dX11_nameOf_68 (by decide) ?_
      exact wp_ireturn dX11_nameOf_92 rfl ⟨_, rfl, h⟩
  rcases Classical.em (x1 = nI 109) with q3 | q3
  · replace h := h.2.2.2.1 q3
    refine wp_lsw (off := 92) (tgt := 93) dX11_nameOf_1 (by decide) (by rw [q3]; decide) (by decide) ?_
    refine wp_aload_n (i := 0) dX11_nameOf_93 rfl rfl ?_
    refine wp_getI dX11_nameOf_94 lf_X11_134 hR_0 rfl ?_
    refine wp_iconst (v := nI 1) dX11_nameOf_97 rfl ?_
    refine wp_icmpeq (tgt := 105) dX11_nameOf_98 (by decide) ⟨fun q => ?_, fun q => ?_⟩
    · replace h := h.1 q
      refine wp_iload_n (i := 1) dX11_nameOf_105 rfl rfl ?_
      refine wp_bipush (v := nI 97) dX11_nameOf_106 (by decide) ?_
      refine wp_icmpne (tgt := 115) dX11_nameOf_108 (by decide) ⟨fun q => ?_, fun q => ?_⟩
      · replace h := h.1 q
        refine wp_iload_n (i := 1) dX11_nameOf_115 rfl rfl ?_
        refine wp_bipush (v := nI 116) dX11_nameOf_116 (by decide) ?_
        refine wp_icmpne (tgt := 125) dX11_nameOf_118 (by decide) ⟨fun q => ?_, fun q => ?_⟩
        · replace h := h.1 q
          refine wp_iconst (v := nI 2) dX11_nameOf_125 rfl ?_
          exact wp_ireturn dX11_nameOf_126 rfl ⟨_, rfl, h⟩
        · replace h := h.2 q
          refine wp_iconst (v := nI 1) dX11_nameOf_121 rfl ?_
          refine wp_goto (tgt := 126) dX11_nameOf_122 (by decide) ?_
          exact wp_ireturn dX11_nameOf_126 rfl ⟨_, rfl, h⟩
      · replace h := h.2 q
        refine wp_iconst (v := nI 0) dX11_nameOf_111 rfl ?_
        refine wp_goto (tgt := 126) dX11_nameOf_112 (by decide) ?_
        exact wp_ireturn dX11_nameOf_126 rfl ⟨_, rfl, h⟩
    · replace h := h.2 q
      refine wp_iconst (v := (-1 : Int32)) dX11_nameOf_101 rfl ?_
      refine wp_goto (tgt := 126) dX11_nameOf_102 (by decide) ?_
      exact wp_ireturn dX11_nameOf_126 rfl ⟨_, rfl, h⟩
  rcases Classical.em (x1 = nI 116) with q4 | q4
  · replace h := h.2.2.2.2.1 q4
    refine wp_lsw (off := 92) (tgt := 93) dX11_nameOf_1 (by decide) (by rw [q4]; decide) (by decide) ?_
    refine wp_aload_n (i := 0) dX11_nameOf_93 rfl rfl ?_
    refine wp_getI dX11_nameOf_94 lf_X11_134 hR_0 rfl ?_
    refine wp_iconst (v := nI 1) dX11_nameOf_97 rfl ?_
    refine wp_icmpeq (tgt := 105) dX11_nameOf_98 (by decide) ⟨fun q => ?_, fun q => ?_⟩
    · replace h := h.1 q
      refine wp_iload_n (i := 1) dX11_nameOf_105 rfl rfl ?_
      refine wp_bipush (v := nI 97) dX11_nameOf_106 (by decide) ?_
      refine wp_icmpne (tgt := 115) dX11_nameOf_108 (by decide) ⟨fun q => ?_, fun q => ?_⟩
      · replace h := h.1 q
        refine wp_iload_n (i := 1) dX11_nameOf_115 rfl rfl ?_
        refine wp_bipush (v := nI 116) dX11_nameOf_116 (by decide) ?_
        refine wp_icmpne (tgt := 125) dX11_nameOf_118 (by decide) ⟨fun q => ?_, fun q => ?_⟩
        · replace h := h.1 q
          refine wp_iconst (v := nI 2) dX11_nameOf_125 rfl ?_
          exact wp_ireturn dX11_nameOf_126 rfl ⟨_, rfl, h⟩
        · replace h := h.2 q
          refine wp_iconst (v := nI 1) dX11_nameOf_121 rfl ?_
          refine wp_goto (tgt := 126) dX11_nameOf_122 (by decide) ?_
          exact wp_ireturn dX11_nameOf_126 rfl ⟨_, rfl, h⟩
      · replace h := h.2 q
        refine wp_iconst (v := nI 0) dX11_nameOf_111 rfl ?_
        refine wp_goto (tgt := 126) dX11_nameOf_112 (by decide) ?_
        exact wp_ireturn dX11_nameOf_126 rfl ⟨_, rfl, h⟩
    · replace h := h.2 q
      refine wp_iconst (v := (-1 : Int32)) dX11_nameOf_101 rfl ?_
      refine wp_goto (tgt := 126) dX11_nameOf_102 (by decide) ?_
      exact wp_ireturn dX11_nameOf_126 rfl ⟨_, rfl, h⟩
  rcases Classical.em (x1 = nI 119) with q5 | q5
  · replace h := h.2.2.2.2.2.1 q5
    refine wp_lsw (off := 59) (tgt := 60) dX11_nameOf_1 (by decide) (by rw [q5]; decide) (by decide) ?_
    refine wp_aload_n (i := 0) dX11_nameOf_60 rfl rfl ?_
    refine wp_getI dX11_nameOf_61 lf_X11_134 hR_0 rfl ?_
    refine wp_ifeq (tgt := 71) dX11_nameOf_64 (by decide) ⟨fun q => ?_, fun q => ?_⟩
    · replace h := h.1 q
      refine wp_iload_n (i := 1) dX11_nameOf_71 rfl rfl ?_
      refine wp_bipush (v := nI 100) dX11_nameOf_72 (by decide) ?_
      refine wp_icmpne (tgt := 81) dX11_nameOf_74 (by decide) ⟨fun q => ?_, fun q => ?_⟩
      · replace h := h.1 q
        refine wp_iload_n (i := 1) dX11_nameOf_81 rfl rfl ?_
        refine wp_bipush (v := nI 119) dX11_nameOf_82 (by decide) ?_
        refine wp_icmpne (tgt := 91) dX11_nameOf_84 (by decide) ⟨fun q => ?_, fun q => ?_⟩
        · replace h := h.1 q
          refine wp_iconst (v := nI 2) dX11_nameOf_91 rfl ?_
          exact wp_ireturn dX11_nameOf_92 rfl ⟨_, rfl, h⟩
        · replace h := h.2 q
          refine wp_iconst (v := nI 1) dX11_nameOf_87 rfl ?_
          refine wp_goto (tgt := 92) dX11_nameOf_88 (by decide) ?_
          exact wp_ireturn dX11_nameOf_92 rfl ⟨_, rfl, h⟩
      · replace h := h.2 q
        refine wp_iconst (v := nI 0) dX11_nameOf_77 rfl ?_
        refine wp_goto (tgt := 92) dX11_nameOf_78 (by decide) ?_
        exact wp_ireturn dX11_nameOf_92 rfl ⟨_, rfl, h⟩
    · replace h := h.2 q
      refine wp_iconst (v := (-1 : Int32)) dX11_nameOf_67 rfl ?_
      refine wp_goto (tgt := 92) dX11_nameOf_68 (by decide) ?_
      exact wp_ireturn dX11_nameOf_92 rfl ⟨_, rfl, h⟩
  replace h := h.2.2.2.2.2.2 q0 q1 q2 q3 q4 q5
  refine wp_lsw (off := 126) (tgt := 127) dX11_nameOf_1 (by decide) ((lv_osw q0 (show ((nI 97) : Int32).toInt = 97 by decide)).trans ((lv_osw q1 (show ((nI 100) : Int32).toInt = 100 by decide)).trans ((lv_osw q2 (show ((nI 104) : Int32).toInt = 104 by decide)).trans ((lv_osw q3 (show ((nI 109) : Int32).toInt = 109 by decide)).trans ((lv_osw q4 (show ((nI 116) : Int32).toInt = 116 by decide)).trans ((lv_osw q5 (show ((nI 119) : Int32).toInt = 119 by decide)).trans rfl)))))) (by decide) ?_
  refine wp_iconst (v := (-1 : Int32)) dX11_nameOf_127 rfl ?_
  exact wp_ireturn dX11_nameOf_128 rfl ⟨_, rfl, h⟩
set_option maxRecDepth 20000 in
set_option maxHeartbeats 2000000 in
theorem vc_Md_step {E : KE} {d : Nat} {x1 : Int32} {x2 : Int32} {σ : Sg} {K : Sg → Prop} (h : ((nI 60) ≤ (σ 0 12) → K σ) ∧ (¬ (nI 60) ≤ (σ 0 12) → vp_in (σ 0 12) 60 ∧ (∀ σ1, σ1 = k_put σ 8 (upd (σ 8) (σ 0 12).toNatClampNeg x1) → vp_in (σ1 0 12) 60 ∧ (∀ σ3, σ3 = k_put σ1 9 (upd (σ1 9) (σ1 0 12).toNatClampNeg x2) → ∀ σ5, σ5 = k_put σ3 0 (upd (σ3 0) 12 ((σ3 0 12) + (nI 1))) → K σ5)))) : CallN E shR d mX11_step [.ref 0, .int x1, .int x2] σ K := by
  refine wp_enter (Lo := [some (.ref 0), some (.int x1), some (.int x2)]) mp_X11_step (Nat.le_of_ble_eq_true rfl) rfl ?_
  refine wp_aload_n (i := 0) dX11_step_0 rfl rfl ?_
  refine wp_getI dX11_step_1 lf_X11_131 hR_0 rfl ?_
  refine wp_aload_n (i := 0) dX11_step_4 rfl rfl ?_
  refine wp_getR (t := 8) dX11_step_5 lf_X11_31 hR_0 rfl ?_
  refine wp_alen dX11_step_8 hR_8 ?_
  refine wp_icmpge (tgt := 42) dX11_step_9 (by decide) ⟨fun q => ?_, fun q => ?_⟩
  · replace h := h.1 q
    exact wp_return dX11_step_42 rfl ⟨rfl, h⟩
  · replace h := h.2 q
    refine wp_aload_n (i := 0) dX11_step_12 rfl rfl ?_
    refine wp_getR (t := 8) dX11_step_13 lf_X11_31 hR_0 rfl ?_
    refine wp_aload_n (i := 0) dX11_step_16 rfl rfl ?_
    refine wp_getI dX11_step_17 lf_X11_131 hR_0 rfl ?_
    refine wp_iload_n (i := 1) dX11_step_20 rfl rfl ?_
    refine wp_iast dX11_step_21 hR_8 ⟨h.1, ?_⟩
    refine wp_nm (fun σ1 e2 => ?_)
    replace h := h.2 σ1 e2
    refine wp_aload_n (i := 0) dX11_step_22 rfl rfl ?_
    refine wp_getR (t := 9) dX11_step_23 lf_X11_34 hR_0 rfl ?_
    refine wp_aload_n (i := 0) dX11_step_26 rfl rfl ?_
    refine wp_getI dX11_step_27 lf_X11_131 hR_0 rfl ?_
    refine wp_iload_n (i := 2) dX11_step_30 rfl rfl ?_
    refine wp_iast dX11_step_31 hR_9 ⟨h.1, ?_⟩
    refine wp_nm (fun σ3 e4 => ?_)
    replace h := h.2 σ3 e4
    refine wp_aload_n (i := 0) dX11_step_32 rfl rfl ?_
    refine wp_dup dX11_step_33 rfl ?_
    refine wp_getI dX11_step_34 lf_X11_131 hR_0 rfl ?_
    refine wp_iconst (v := nI 1) dX11_step_37 rfl ?_
    refine wp_iadd dX11_step_38 ?_
    refine wp_put dX11_step_39 lp_X11_131 hR_0 rfl ⟨⟨rfl, rfl⟩, ?_⟩
    refine wp_nm (fun σ5 e6 => ?_)
    replace h := h σ5 e6
    exact wp_return dX11_step_42 rfl ⟨rfl, h⟩
set_option maxRecDepth 20000 in
set_option maxHeartbeats 2000000 in
theorem vc_Md_opens {E : KE} {d : Nat} {x1 : Int32} {σ : Sg} {K : Sg → Prop} (h : (¬ (σ 0 14) = (nI 5) → ∀ σ1, σ1 = k_put σ 0 (upd (σ 0) 14 ((σ 0 14) + (nI 1))) → ∀ σ3, σ3 = k_put σ1 0 (upd (σ1 0) 13 ((σ1 0 13) + (nI 1))) → (¬ x1 = (nI 33) → CallN E shR d mX11_any [.ref 0] σ3 (fun σ5 => (¬ (σ5 0 15) = 0 → ∀ σ6, σ6 = k_put σ5 0 (upd (σ5 0) 15 (nI 1)) → ((σ6 0 15) = 0 → ∀ σ8, σ8 = k_put σ6 0 (upd (σ6 0) 13 ((σ6 0 13) + (nI 1))) → ∀ σ10, σ10 = k_put σ8 0 (upd (σ8 0) 14 ((σ8 0 14) - (nI 1))) → K σ10) ∧ (¬ (σ6 0 15) = 0 → ∀ σ12, σ12 = k_put σ6 0 (upd (σ6 0) 13 ((σ6 0 13) + (nI 0))) → ∀ σ14, σ14 = k_put σ12 0 (upd (σ12 0) 14 ((σ12 0 14) - (nI 1))) → K σ14)) ∧ ((σ5 0 15) = 0 → CallI E shR d mX11_look [.ref 0] σ5 (fun y17 σ16 => (y17 = (nI 41) → ∀ σ18, σ18 = k_put σ16 0 (upd (σ16 0) 15 (nI 0)) → ((σ18 0 15) = 0 → ∀ σ20, σ20 = k_put σ18 0 (upd (σ18 0) 13 ((σ18 0 13) + (nI 1))) → ∀ σ22, σ22 = k_put σ20 0 (upd (σ20 0) 14 ((σ20 0 14) - (nI 1))) → K σ22) ∧ (¬ (σ18 0 15) = 0 → ∀ σ24, σ24 = k_put σ18 0 (upd (σ18 0) 13 ((σ18 0 13) + (nI 0))) → ∀ σ26, σ26 = k_put σ24 0 (upd (σ24 0) 14 ((σ24 0 14) - (nI 1))) → K σ26)) ∧ (¬ y17 = (nI 41) → ∀ σ28, σ28 = k_put σ16 0 (upd (σ16 0) 15 (nI 1)) → ((σ28 0 15) = 0 → ∀ σ30, σ30 = k_put σ28 0 (upd (σ28 0) 13 ((σ28 0 13) + (nI 1))) → ∀ σ32, σ32 = k_put σ30 0 (upd (σ30 0) 14 ((σ30 0 14) - (nI 1))) → K σ32) ∧ (¬ (σ28 0 15) = 0 → ∀ σ34, σ34 = k_put σ28 0 (upd (σ28 0) 13 ((σ28 0 13) + (nI 0))) → ∀ σ36, σ36 = k_put σ34 0 (upd (σ34 0) 14 ((σ34 0 14) - (nI 1))) → K σ36)))))) ∧ (x1 = (nI 33) → CallN E shR d mX11_one [.ref 0] σ3 (fun σ38 => CallN E shR d mX11_step [.ref 0, .int (nI 3), .int (nI 0)] σ38 (fun σ39 => ∀ σ40, σ40 = k_put σ39 0 (upd (σ39 0) 14 ((σ39 0 14) - (nI 1))) → K σ40)))) ∧ ((σ 0 14) = (nI 5) → ∀ σ42, σ42 = k_put σ 0 (upd (σ 0) 15 (nI 1)) → K σ42)) : CallN E shR (d + 1) mX11_opens [.ref 0, .int x1] σ K := by
  refine wp_enter (Lo := [some (.ref 0), some (.int x1)]) mp_X11_opens (Nat.le_of_ble_eq_true rfl) rfl ?_
  refine wp_aload_n (i := 0) dX11_opens_0 rfl rfl ?_
  refine wp_getI dX11_opens_1 lf_X11_149 hR_0 rfl ?_
  refine wp_iconst (v := nI 5) dX11_opens_4 rfl ?_
  refine wp_icmpne (tgt := 14) dX11_opens_5 (by decide) ⟨fun q => ?_, fun q => ?_⟩
  · replace h := h.1 q
    refine wp_aload_n (i := 0) dX11_opens_14 rfl rfl ?_
    refine wp_dup dX11_opens_15 rfl ?_
    refine wp_getI dX11_opens_16 lf_X11_149 hR_0 rfl ?_
    refine wp_iconst (v := nI 1) dX11_opens_19 rfl ?_
    refine wp_iadd dX11_opens_20 ?_
    refine wp_put dX11_opens_21 lp_X11_149 hR_0 rfl ⟨⟨rfl, rfl⟩, ?_⟩
    refine wp_nm (fun σ1 e2 => ?_)
    replace h := h σ1 e2
    refine wp_aload_n (i := 0) dX11_opens_24 rfl rfl ?_
    refine wp_dup dX11_opens_25 rfl ?_
    refine wp_getI dX11_opens_26 lf_X11_127 hR_0 rfl ?_
    refine wp_iconst (v := nI 1) dX11_opens_29 rfl ?_
    refine wp_iadd dX11_opens_30 ?_
    refine wp_put dX11_opens_31 lp_X11_127 hR_0 rfl ⟨⟨rfl, rfl⟩, ?_⟩
    refine wp_nm (fun σ3 e4 => ?_)
    replace h := h σ3 e4
    refine wp_iload_n (i := 1) dX11_opens_34 rfl rfl ?_
    refine wp_bipush (v := nI 33) dX11_opens_35 (by decide) ?_
    refine wp_icmpne (tgt := 53) dX11_opens_37 (by decide) ⟨fun q => ?_, fun q => ?_⟩
    · replace h := h.1 q
      refine wp_aload_n (i := 0) dX11_opens_53 rfl rfl ?_
      refine wp_callVN (vs := []) (rest := []) dX11_opens_54 mV_X11_any lm_X11_155 hR_0 rfl rfl rfl (Nat.le_of_ble_eq_true rfl) (CallN.mono h (fun σ5 h => ?_))
      refine wp_aload_n (i := 0) dX11_opens_57 rfl rfl ?_
      refine wp_aload_n (i := 0) dX11_opens_58 rfl rfl ?_
      refine wp_getI dX11_opens_59 lf_X11_141 hR_0 rfl ?_
      refine wp_ifne (tgt := 74) dX11_opens_62 (by decide) ⟨fun q => ?_, fun q => ?_⟩
      · replace h := h.1 q
        refine wp_iconst (v := nI 1) dX11_opens_74 rfl ?_
        refine wp_goto (tgt := 79) dX11_opens_75 (by decide) ?_
        refine wp_put dX11_opens_79 lp_X11_141 hR_0 rfl ⟨⟨rfl, rfl⟩, ?_⟩
        refine wp_nm (fun σ6 e7 => ?_)
        replace h := h σ6 e7
        refine wp_aload_n (i := 0) dX11_opens_82 rfl rfl ?_
        refine wp_dup dX11_opens_83 rfl ?_
        refine wp_getI dX11_opens_84 lf_X11_127 hR_0 rfl ?_
        refine wp_aload_n (i := 0) dX11_opens_87 rfl rfl ?_
        refine wp_getI dX11_opens_88 lf_X11_141 hR_0 rfl ?_
        refine wp_ifeq (tgt := 98) dX11_opens_91 (by decide) ⟨fun q => ?_, fun q => ?_⟩
        · replace h := h.1 q
          refine wp_iconst (v := nI 1) dX11_opens_98 rfl ?_
          refine wp_iadd dX11_opens_99 ?_
          refine wp_put dX11_opens_100 lp_X11_127 hR_0 rfl ⟨⟨rfl, rfl⟩, ?_⟩
          refine wp_nm (fun σ8 e9 => ?_)
          replace h := h σ8 e9
          refine wp_aload_n (i := 0) dX11_opens_103 rfl rfl ?_
          refine wp_dup dX11_opens_104 rfl ?_
          refine wp_getI dX11_opens_105 lf_X11_149 hR_0 rfl ?_
          refine wp_iconst (v := nI 1) dX11_opens_108 rfl ?_
          refine wp_isub dX11_opens_109 ?_
          refine wp_put dX11_opens_110 lp_X11_149 hR_0 rfl ⟨⟨rfl, rfl⟩, ?_⟩
          refine wp_nm (fun σ10 e11 => ?_)
          replace h := h σ10 e11
          exact wp_return dX11_opens_113 rfl ⟨rfl, h⟩
        · replace h := h.2 q
          refine wp_iconst (v := nI 0) dX11_opens_94 rfl ?_
          refine wp_goto (tgt := 99) dX11_opens_95 (by decide) ?_
          refine wp_iadd dX11_opens_99 ?_
          refine wp_put dX11_opens_100 lp_X11_127 hR_0 rfl ⟨⟨rfl, rfl⟩, ?_⟩
          refine wp_nm (fun σ12 e13 => ?_)
          replace h := h σ12 e13
          refine wp_aload_n (i := 0) dX11_opens_103 rfl rfl ?_
          refine wp_dup dX11_opens_104 rfl ?_
          refine wp_getI dX11_opens_105 lf_X11_149 hR_0 rfl ?_
          refine wp_iconst (v := nI 1) dX11_opens_108 rfl ?_
          refine wp_isub dX11_opens_109 ?_
          refine wp_put dX11_opens_110 lp_X11_149 hR_0 rfl ⟨⟨rfl, rfl⟩, ?_⟩
          refine wp_nm (fun σ14 e15 => ?_)
          replace h := h σ14 e15
          exact wp_return dX11_opens_113 rfl ⟨rfl, h⟩
      · replace h := h.2 q
        refine wp_aload_n (i := 0) dX11_opens_65 rfl rfl ?_
        refine wp_callVI (vs := []) (rest := [.ref 0]) dX11_opens_66 mV_X11_look lm_X11_137 hR_0 rfl rfl rfl (Nat.le_of_ble_eq_true rfl) (CallI.mono h (fun y17 σ16 h => ?_))
        refine wp_bipush (v := nI 41) dX11_opens_69 (by decide) ?_
        refine wp_icmpeq (tgt := 78) dX11_opens_71 (by decide) ⟨fun q => ?_, fun q => ?_⟩
        · replace h := h.1 q
          refine wp_iconst (v := nI 0) dX11_opens_78 rfl ?_
          refine wp_put dX11_opens_79 lp_X11_141 hR_0 rfl ⟨⟨rfl, rfl⟩, ?_⟩
          refine wp_nm (fun σ18 e19 => ?_)
          replace h := h σ18 e19
          refine wp_aload_n (i := 0) dX11_opens_82 rfl rfl ?_
          refine wp_dup dX11_opens_83 rfl ?_
          refine wp_getI dX11_opens_84 lf_X11_127 hR_0 rfl ?_
          refine wp_aload_n (i := 0) dX11_opens_87 rfl rfl ?_
          refine wp_getI dX11_opens_88 lf_X11_141 hR_0 rfl ?_
          refine wp_ifeq (tgt := 98) dX11_opens_91 (by decide) ⟨fun q => ?_, fun q => ?_⟩
          · replace h := h.1 q
            refine wp_iconst (v := nI 1) dX11_opens_98 rfl ?_
            refine wp_iadd dX11_opens_99 ?_
            refine wp_put dX11_opens_100 lp_X11_127 hR_0 rfl ⟨⟨rfl, rfl⟩, ?_⟩
            refine wp_nm (fun σ20 e21 => ?_)
            replace h := h σ20 e21
            refine wp_aload_n (i := 0) dX11_opens_103 rfl rfl ?_
            refine wp_dup dX11_opens_104 rfl ?_
            refine wp_getI dX11_opens_105 lf_X11_149 hR_0 rfl ?_
            refine wp_iconst (v := nI 1) dX11_opens_108 rfl ?_
            refine wp_isub dX11_opens_109 ?_
            refine wp_put dX11_opens_110 lp_X11_149 hR_0 rfl ⟨⟨rfl, rfl⟩, ?_⟩
            refine wp_nm (fun σ22 e23 => ?_)
            replace h := h σ22 e23
            exact wp_return dX11_opens_113 rfl ⟨rfl, h⟩
          · replace h := h.2 q
            refine wp_iconst (v := nI 0) dX11_opens_94 rfl ?_
            refine wp_goto (tgt := 99) dX11_opens_95 (by decide) ?_
            refine wp_iadd dX11_opens_99 ?_
            refine wp_put dX11_opens_100 lp_X11_127 hR_0 rfl ⟨⟨rfl, rfl⟩, ?_⟩
            refine wp_nm (fun σ24 e25 => ?_)
            replace h := h σ24 e25
            refine wp_aload_n (i := 0) dX11_opens_103 rfl rfl ?_
            refine wp_dup dX11_opens_104 rfl ?_
            refine wp_getI dX11_opens_105 lf_X11_149 hR_0 rfl ?_
            refine wp_iconst (v := nI 1) dX11_opens_108 rfl ?_
            refine wp_isub dX11_opens_109 ?_
            refine wp_put dX11_opens_110 lp_X11_149 hR_0 rfl ⟨⟨rfl, rfl⟩, ?_⟩
            refine wp_nm (fun σ26 e27 => ?_)
            replace h := h σ26 e27
            exact wp_return dX11_opens_113 rfl ⟨rfl, h⟩
        · replace h := h.2 q
          refine wp_iconst (v := nI 1) dX11_opens_74 rfl ?_
          refine wp_goto (tgt := 79) dX11_opens_75 (by decide) ?_
          refine wp_put dX11_opens_79 lp_X11_141 hR_0 rfl ⟨⟨rfl, rfl⟩, ?_⟩
          refine wp_nm (fun σ28 e29 => ?_)
          replace h := h σ28 e29
          refine wp_aload_n (i := 0) dX11_opens_82 rfl rfl ?_
          refine wp_dup dX11_opens_83 rfl ?_
          refine wp_getI dX11_opens_84 lf_X11_127 hR_0 rfl ?_
          refine wp_aload_n (i := 0) dX11_opens_87 rfl rfl ?_
          refine wp_getI dX11_opens_88 lf_X11_141 hR_0 rfl ?_
          refine wp_ifeq (tgt := 98) dX11_opens_91 (by decide) ⟨fun q => ?_, fun q => ?_⟩
          · replace h := h.1 q
            refine wp_iconst (v := nI 1) dX11_opens_98 rfl ?_
            refine wp_iadd dX11_opens_99 ?_
            refine wp_put dX11_opens_100 lp_X11_127 hR_0 rfl ⟨⟨rfl, rfl⟩, ?_⟩
            refine wp_nm (fun σ30 e31 => ?_)
            replace h := h σ30 e31
            refine wp_aload_n (i := 0) dX11_opens_103 rfl rfl ?_
            refine wp_dup dX11_opens_104 rfl ?_
            refine wp_getI dX11_opens_105 lf_X11_149 hR_0 rfl ?_
            refine wp_iconst (v := nI 1) dX11_opens_108 rfl ?_
            refine wp_isub dX11_opens_109 ?_
            refine wp_put dX11_opens_110 lp_X11_149 hR_0 rfl ⟨⟨rfl, rfl⟩, ?_⟩
            refine wp_nm (fun σ32 e33 => ?_)
            replace h := h σ32 e33
            exact wp_return dX11_opens_113 rfl ⟨rfl, h⟩
          · replace h := h.2 q
            refine wp_iconst (v := nI 0) dX11_opens_94 rfl ?_
            refine wp_goto (tgt := 99) dX11_opens_95 (by decide) ?_
            refine wp_iadd dX11_opens_99 ?_
            refine wp_put dX11_opens_100 lp_X11_127 hR_0 rfl ⟨⟨rfl, rfl⟩, ?_⟩
            refine wp_nm (fun σ34 e35 => ?_)
            replace h := h σ34 e35
            refine wp_aload_n (i := 0) dX11_opens_103 rfl rfl ?_
            refine wp_dup dX11_opens_104 rfl ?_
            refine wp_getI dX11_opens_105 lf_X11_149 hR_0 rfl ?_
            refine wp_iconst (v := nI 1) dX11_opens_108 rfl ?_
            refine wp_isub dX11_opens_109 ?_
            refine wp_put dX11_opens_110 lp_X11_149 hR_0 rfl ⟨⟨rfl, rfl⟩, ?_⟩
            refine wp_nm (fun σ36 e37 => ?_)
            replace h := h σ36 e37
            exact wp_return dX11_opens_113 rfl ⟨rfl, h⟩
    · replace h := h.2 q
      refine wp_aload_n (i := 0) dX11_opens_40 rfl rfl ?_
      refine wp_callVN (vs := []) (rest := []) dX11_opens_41 mV_X11_one lm_X11_152 hR_0 rfl rfl rfl (Nat.le_of_ble_eq_true rfl) (CallN.mono h (fun σ38 h => ?_))
      refine wp_aload_n (i := 0) dX11_opens_44 rfl rfl ?_
      refine wp_iconst (v := nI 3) dX11_opens_45 rfl ?_
      refine wp_iconst (v := nI 0) dX11_opens_46 rfl ?_
      refine wp_callVN (vs := [.int (nI 3), .int (nI 0)]) (rest := []) dX11_opens_47 mV_X11_step lm_X11_145 hR_0 rfl rfl rfl (Nat.le_of_ble_eq_true rfl) (CallN.mono h (fun σ39 h => ?_))
      refine wp_goto (tgt := 103) dX11_opens_50 (by decide) ?_
      refine wp_aload_n (i := 0) dX11_opens_103 rfl rfl ?_
      refine wp_dup dX11_opens_104 rfl ?_
      refine wp_getI dX11_opens_105 lf_X11_149 hR_0 rfl ?_
      refine wp_iconst (v := nI 1) dX11_opens_108 rfl ?_
      refine wp_isub dX11_opens_109 ?_
      refine wp_put dX11_opens_110 lp_X11_149 hR_0 rfl ⟨⟨rfl, rfl⟩, ?_⟩
      refine wp_nm (fun σ40 e41 => ?_)
      replace h := h σ40 e41
      exact wp_return dX11_opens_113 rfl ⟨rfl, h⟩
  · replace h := h.2 q
    refine wp_aload_n (i := 0) dX11_opens_8 rfl rfl ?_
    refine wp_iconst (v := nI 1) dX11_opens_9 rfl ?_
    refine wp_put dX11_opens_10 lp_X11_141 hR_0 rfl ⟨⟨rfl, rfl⟩, ?_⟩
    refine wp_nm (fun σ42 e43 => ?_)
    replace h := h σ42 e43
    exact wp_return dX11_opens_13 rfl ⟨rfl, h⟩
set_option maxRecDepth 20000 in
set_option maxHeartbeats 2000000 in
theorem vb_Md_number_4 {E : KE} {d : Nat} {x1 : Int32} {x2 : Int32} {σ : Sg} {K : Sg → Prop} (h : ((nI 4) ≤ x2 → (¬ x2 = 0 → ∀ σ1, σ1 = k_put σ 0 (upd (σ 0) 15 (nI 0)) → CallN E shR d mX11_step [.ref 0, .int (nI 1), .int x1] σ1 (fun σ3 => K σ3)) ∧ (x2 = 0 → ∀ σ4, σ4 = k_put σ 0 (upd (σ 0) 15 (nI 1)) → CallN E shR d mX11_step [.ref 0, .int (nI 1), .int x1] σ4 (fun σ6 => K σ6))) ∧ (¬ (nI 4) ≤ x2 → CallI E shR d mX11_look [.ref 0] σ (fun y8 σ7 => CallI E shR d mX11_in [.int y8, .int (nI 48), .int (nI 57)] σ7 (fun y10 σ9 => (y10 = 0 → (¬ x2 = 0 → ∀ σ11, σ11 = k_put σ9 0 (upd (σ9 0) 15 (nI 0)) → CallN E shR d mX11_step [.ref 0, .int (nI 1), .int x1] σ11 (fun σ13 => K σ13)) ∧ (x2 = 0 → ∀ σ14, σ14 = k_put σ9 0 (upd (σ9 0) 15 (nI 1)) → CallN E shR d mX11_step [.ref 0, .int (nI 1), .int x1] σ14 (fun σ16 => K σ16))) ∧ (¬ y10 = 0 → CallI E shR d mX11_look [.ref 0] σ9 (fun y18 σ17 => ∀ σ19, σ19 = k_put σ17 0 (upd (σ17 0) 13 ((σ17 0 13) + (nI 1))) → WP E shR mX11_number (d + 1) 4 [some (.ref 0), some (.int ((((nI 10) * x1) + y18) - (nI 48))), some (.int (x2 + nI 1))] [] σ19 (k_qn K))))))) : WP E shR mX11_number (d + 1) 4 [some (.ref 0), some (.int x1), some (.int x2)] [] σ (k_qn K) := by
  refine wp_iload_n (i := 2) dX11_number_4 rfl rfl ?_
  refine wp_iconst (v := nI 4) dX11_number_5 rfl ?_
  refine wp_icmpge (tgt := 52) dX11_number_6 (by decide) ⟨fun q => ?_, fun q => ?_⟩
  · replace h := h.1 q
    refine wp_aload_n (i := 0) dX11_number_52 rfl rfl ?_
    refine wp_iload_n (i := 2) dX11_number_53 rfl rfl ?_
    refine wp_ifne (tgt := 61) dX11_number_54 (by decide) ⟨fun q => ?_, fun q => ?_⟩
    · replace h := h.1 q
      refine wp_iconst (v := nI 0) dX11_number_61 rfl ?_
      refine wp_put dX11_number_62 lp_X11_141 hR_0 rfl ⟨⟨rfl, rfl⟩, ?_⟩
      refine wp_nm (fun σ1 e2 => ?_)
      replace h := h σ1 e2
      refine wp_aload_n (i := 0) dX11_number_65 rfl rfl ?_
      refine wp_iconst (v := nI 1) dX11_number_66 rfl ?_
      refine wp_iload_n (i := 1) dX11_number_67 rfl rfl ?_
      refine wp_callVN (vs := [.int (nI 1), .int x1]) (rest := []) dX11_number_68 mV_X11_step lm_X11_145 hR_0 rfl rfl rfl (Nat.le_of_ble_eq_true rfl) (CallN.mono h (fun σ3 h => ?_))
      exact wp_return dX11_number_71 rfl ⟨rfl, h⟩
    · replace h := h.2 q
      refine wp_iconst (v := nI 1) dX11_number_57 rfl ?_
      refine wp_goto (tgt := 62) dX11_number_58 (by decide) ?_
      refine wp_put dX11_number_62 lp_X11_141 hR_0 rfl ⟨⟨rfl, rfl⟩, ?_⟩
      refine wp_nm (fun σ4 e5 => ?_)
      replace h := h σ4 e5
      refine wp_aload_n (i := 0) dX11_number_65 rfl rfl ?_
      refine wp_iconst (v := nI 1) dX11_number_66 rfl ?_
      refine wp_iload_n (i := 1) dX11_number_67 rfl rfl ?_
      refine wp_callVN (vs := [.int (nI 1), .int x1]) (rest := []) dX11_number_68 mV_X11_step lm_X11_145 hR_0 rfl rfl rfl (Nat.le_of_ble_eq_true rfl) (CallN.mono h (fun σ6 h => ?_))
      exact wp_return dX11_number_71 rfl ⟨rfl, h⟩
  · replace h := h.2 q
    refine wp_aload_n (i := 0) dX11_number_9 rfl rfl ?_
    refine wp_callVI (vs := []) (rest := []) dX11_number_10 mV_X11_look lm_X11_137 hR_0 rfl rfl rfl (Nat.le_of_ble_eq_true rfl) (CallI.mono h (fun y8 σ7 h => ?_))
    refine wp_bipush (v := nI 48) dX11_number_13 (by decide) ?_
    refine wp_bipush (v := nI 57) dX11_number_15 (by decide) ?_
    refine wp_callSI (vs := [.int y8, .int (nI 48), .int (nI 57)]) (rest := []) dX11_number_17 mS_X11_in lm_X11_53 rfl rfl (Nat.le_of_ble_eq_true rfl) (CallI.mono h (fun y10 σ9 h => ?_))
    refine wp_ifeq (tgt := 52) dX11_number_20 (by decide) ⟨fun q => ?_, fun q => ?_⟩
    · replace h := h.1 q
      refine wp_aload_n (i := 0) dX11_number_52 rfl rfl ?_
      refine wp_iload_n (i := 2) dX11_number_53 rfl rfl ?_
      refine wp_ifne (tgt := 61) dX11_number_54 (by decide) ⟨fun q => ?_, fun q => ?_⟩
      · replace h := h.1 q
        refine wp_iconst (v := nI 0) dX11_number_61 rfl ?_
        refine wp_put dX11_number_62 lp_X11_141 hR_0 rfl ⟨⟨rfl, rfl⟩, ?_⟩
        refine wp_nm (fun σ11 e12 => ?_)
        replace h := h σ11 e12
        refine wp_aload_n (i := 0) dX11_number_65 rfl rfl ?_
        refine wp_iconst (v := nI 1) dX11_number_66 rfl ?_
        refine wp_iload_n (i := 1) dX11_number_67 rfl rfl ?_
        refine wp_callVN (vs := [.int (nI 1), .int x1]) (rest := []) dX11_number_68 mV_X11_step lm_X11_145 hR_0 rfl rfl rfl (Nat.le_of_ble_eq_true rfl) (CallN.mono h (fun σ13 h => ?_))
        exact wp_return dX11_number_71 rfl ⟨rfl, h⟩
      · replace h := h.2 q
        refine wp_iconst (v := nI 1) dX11_number_57 rfl ?_
        refine wp_goto (tgt := 62) dX11_number_58 (by decide) ?_
        refine wp_put dX11_number_62 lp_X11_141 hR_0 rfl ⟨⟨rfl, rfl⟩, ?_⟩
        refine wp_nm (fun σ14 e15 => ?_)
        replace h := h σ14 e15
        refine wp_aload_n (i := 0) dX11_number_65 rfl rfl ?_
        refine wp_iconst (v := nI 1) dX11_number_66 rfl ?_
        refine wp_iload_n (i := 1) dX11_number_67 rfl rfl ?_
        refine wp_callVN (vs := [.int (nI 1), .int x1]) (rest := []) dX11_number_68 mV_X11_step lm_X11_145 hR_0 rfl rfl rfl (Nat.le_of_ble_eq_true rfl) (CallN.mono h (fun σ16 h => ?_))
        exact wp_return dX11_number_71 rfl ⟨rfl, h⟩
    · replace h := h.2 q
      refine wp_bipush (v := nI 10) dX11_number_23 (by decide) ?_
      refine wp_iload_n (i := 1) dX11_number_25 rfl rfl ?_
      refine wp_imul dX11_number_26 ?_
      refine wp_aload_n (i := 0) dX11_number_27 rfl rfl ?_
      refine wp_callVI (vs := []) (rest := [.int ((nI 10) * x1)]) dX11_number_28 mV_X11_look lm_X11_137 hR_0 rfl rfl rfl (Nat.le_of_ble_eq_true rfl) (CallI.mono h (fun y18 σ17 h => ?_))
      refine wp_iadd dX11_number_31 ?_
      refine wp_bipush (v := nI 48) dX11_number_32 (by decide) ?_
      refine wp_isub dX11_number_34 ?_
      refine wp_istore_n (i := 1) (Lo' := [some (.ref 0), some (.int ((((nI 10) * x1) + y18) - (nI 48))), some (.int x2)]) dX11_number_35 rfl (by decide) rfl rfl ?_
      refine wp_aload_n (i := 0) dX11_number_36 rfl rfl ?_
      refine wp_dup dX11_number_37 rfl ?_
      refine wp_getI dX11_number_38 lf_X11_127 hR_0 rfl ?_
      refine wp_iconst (v := nI 1) dX11_number_41 rfl ?_
      refine wp_iadd dX11_number_42 ?_
      refine wp_put dX11_number_43 lp_X11_127 hR_0 rfl ⟨⟨rfl, rfl⟩, ?_⟩
      refine wp_nm (fun σ19 e20 => ?_)
      replace h := h σ19 e20
      refine wp_iinc (i := 2) (v := x2 + nI 1) (Lo' := [some (.ref 0), some (.int ((((nI 10) * x1) + y18) - (nI 48))), some (.int (x2 + nI 1))]) dX11_number_46 rfl (by rfl) (by decide) rfl rfl ?_
      refine wp_goto (tgt := 4) dX11_number_49 (by decide) ?_
      exact wp_mask [true, true, true] h
set_option maxRecDepth 20000 in
set_option maxHeartbeats 2000000 in
theorem vc_Md_number {E : KE} {d : Nat} {σ : Sg} {K : Sg → Prop} (h : WP E shR mX11_number (d + 1) 4 [some (.ref 0), some (.int (nI 0)), some (.int (nI 0))] [] σ (k_qn K)) : CallN E shR (d + 1) mX11_number [.ref 0] σ K := by
  refine wp_enter (Lo := [some (.ref 0), none, none]) mp_X11_number (Nat.le_of_ble_eq_true rfl) rfl ?_
  refine wp_iconst (v := nI 0) dX11_number_0 rfl ?_
  refine wp_istore_n (i := 1) (Lo' := [some (.ref 0), some (.int (nI 0)), none]) dX11_number_1 rfl (by decide) rfl rfl ?_
  refine wp_iconst (v := nI 0) dX11_number_2 rfl ?_
  refine wp_istore_n (i := 2) (Lo' := [some (.ref 0), some (.int (nI 0)), some (.int (nI 0))]) dX11_number_3 rfl (by decide) rfl rfl ?_
  exact wp_mask [true, true, true] h
set_option maxRecDepth 20000 in
set_option maxHeartbeats 2000000 in
theorem vc_Md_one {E : KE} {d : Nat} {σ : Sg} {K : Sg → Prop} (h : CallI E shR d mX11_look [.ref 0] σ (fun y2 σ1 => CallI E shR d mX11_nameOf [.ref 0, .int y2] σ1 (fun y4 σ3 => (y4 < 0 → (y2 = (nI 33) → CallN E shR d mX11_opens [.ref 0, .int y2] σ3 (fun σ5 => K σ5)) ∧ (¬ y2 = (nI 33) → (¬ y2 = (nI 40) → CallN E shR d mX11_number [.ref 0] σ3 (fun σ6 => K σ6)) ∧ (y2 = (nI 40) → CallN E shR d mX11_opens [.ref 0, .int y2] σ3 (fun σ7 => K σ7)))) ∧ (¬ y4 < 0 → ∀ σ8, σ8 = k_put σ3 0 (upd (σ3 0) 13 ((σ3 0 13) + (nI 1))) → CallN E shR d mX11_step [.ref 0, .int (nI 2), .int y4] σ8 (fun σ10 => K σ10))))) : CallN E shR (d + 1) mX11_one [.ref 0] σ K := by
  refine wp_enter (Lo := [some (.ref 0), none, none]) mp_X11_one (Nat.le_of_ble_eq_true rfl) rfl ?_
  refine wp_aload_n (i := 0) dX11_one_0 rfl rfl ?_
  refine wp_callVI (vs := []) (rest := []) dX11_one_1 mV_X11_look lm_X11_137 hR_0 rfl rfl rfl (Nat.le_of_ble_eq_true rfl) (CallI.mono h (fun y2 σ1 h => ?_))
  refine wp_istore_n (i := 1) (Lo' := [some (.ref 0), some (.int y2), none]) dX11_one_4 rfl (by decide) rfl rfl ?_
  refine wp_aload_n (i := 0) dX11_one_5 rfl rfl ?_
  refine wp_iload_n (i := 1) dX11_one_6 rfl rfl ?_
  refine wp_callVI (vs := [.int y2]) (rest := []) dX11_one_7 mV_X11_nameOf lm_X11_158 hR_0 rfl rfl rfl (Nat.le_of_ble_eq_true rfl) (CallI.mono h (fun y4 σ3 h => ?_))
  refine wp_istore_n (i := 2) (Lo' := [some (.ref 0), some (.int y2), some (.int y4)]) dX11_one_10 rfl (by decide) rfl rfl ?_
  refine wp_iload_n (i := 2) dX11_one_11 rfl rfl ?_
  refine wp_iflt (tgt := 34) dX11_one_12 (by decide) ⟨fun q => ?_, fun q => ?_⟩
  · replace h := h.1 q
    refine wp_iload_n (i := 1) dX11_one_34 rfl rfl ?_
    refine wp_bipush (v := nI 33) dX11_one_35 (by decide) ?_
    refine wp_icmpeq (tgt := 46) dX11_one_37 (by decide) ⟨fun q => ?_, fun q => ?_⟩
    · replace h := h.1 q
      refine wp_aload_n (i := 0) dX11_one_46 rfl rfl ?_
      refine wp_iload_n (i := 1) dX11_one_47 rfl rfl ?_
      refine wp_callVN (vs := [.int y2]) (rest := []) dX11_one_48 mV_X11_opens lm_X11_161 hR_0 rfl rfl rfl (Nat.le_of_ble_eq_true rfl) (CallN.mono h (fun σ5 h => ?_))
      refine wp_goto (tgt := 58) dX11_one_51 (by decide) ?_
      exact wp_return dX11_one_58 rfl ⟨rfl, h⟩
    · replace h := h.2 q
      refine wp_iload_n (i := 1) dX11_one_40 rfl rfl ?_
      refine wp_bipush (v := nI 40) dX11_one_41 (by decide) ?_
      refine wp_icmpne (tgt := 54) dX11_one_43 (by decide) ⟨fun q => ?_, fun q => ?_⟩
      · replace h := h.1 q
        refine wp_aload_n (i := 0) dX11_one_54 rfl rfl ?_
        refine wp_callVN (vs := []) (rest := []) dX11_one_55 mV_X11_number lm_X11_165 hR_0 rfl rfl rfl (Nat.le_of_ble_eq_true rfl) (CallN.mono h (fun σ6 h => ?_))
        exact wp_return dX11_one_58 rfl ⟨rfl, h⟩
      · replace h := h.2 q
        refine wp_aload_n (i := 0) dX11_one_46 rfl rfl ?_
        refine wp_iload_n (i := 1) dX11_one_47 rfl rfl ?_
        refine wp_callVN (vs := [.int y2]) (rest := []) dX11_one_48 mV_X11_opens lm_X11_161 hR_0 rfl rfl rfl (Nat.le_of_ble_eq_true rfl) (CallN.mono h (fun σ7 h => ?_))
        refine wp_goto (tgt := 58) dX11_one_51 (by decide) ?_
        exact wp_return dX11_one_58 rfl ⟨rfl, h⟩
  · replace h := h.2 q
    refine wp_aload_n (i := 0) dX11_one_15 rfl rfl ?_
    refine wp_dup dX11_one_16 rfl ?_
    refine wp_getI dX11_one_17 lf_X11_127 hR_0 rfl ?_
    refine wp_iconst (v := nI 1) dX11_one_20 rfl ?_
    refine wp_iadd dX11_one_21 ?_
    refine wp_put dX11_one_22 lp_X11_127 hR_0 rfl ⟨⟨rfl, rfl⟩, ?_⟩
    refine wp_nm (fun σ8 e9 => ?_)
    replace h := h σ8 e9
    refine wp_aload_n (i := 0) dX11_one_25 rfl rfl ?_
    refine wp_iconst (v := nI 2) dX11_one_26 rfl ?_
    refine wp_iload_n (i := 2) dX11_one_27 rfl rfl ?_
    refine wp_callVN (vs := [.int (nI 2), .int y4]) (rest := []) dX11_one_28 mV_X11_step lm_X11_145 hR_0 rfl rfl rfl (Nat.le_of_ble_eq_true rfl) (CallN.mono h (fun σ10 h => ?_))
    refine wp_goto (tgt := 58) dX11_one_31 (by decide) ?_
    exact wp_return dX11_one_58 rfl ⟨rfl, h⟩
set_option maxRecDepth 20000 in
set_option maxHeartbeats 2000000 in
theorem vb_Md_times_4 {E : KE} {d : Nat} {σ : Sg} {K : Sg → Prop} (h : (¬ (σ 0 15) = 0 → K σ) ∧ ((σ 0 15) = 0 → CallI E shR d mX11_look [.ref 0] σ (fun y2 σ1 => (y2 = (nI 42) → CallI E shR d mX11_look [.ref 0] σ1 (fun y4 σ3 => ∀ σ5, σ5 = k_put σ3 0 (upd (σ3 0) 13 ((σ3 0 13) + (nI 1))) → CallN E shR d mX11_one [.ref 0] σ5 (fun σ7 => CallN E shR d mX11_step [.ref 0, .int y4, .int (nI 0)] σ7 (fun σ8 => WP E shR mX11_times (d + 1) 4 [some (.ref 0), none] [] σ8 (k_qn K))))) ∧ (¬ y2 = (nI 42) → CallI E shR d mX11_look [.ref 0] σ1 (fun y10 σ9 => (y10 = (nI 47) → CallI E shR d mX11_look [.ref 0] σ9 (fun y12 σ11 => ∀ σ13, σ13 = k_put σ11 0 (upd (σ11 0) 13 ((σ11 0 13) + (nI 1))) → CallN E shR d mX11_one [.ref 0] σ13 (fun σ15 => CallN E shR d mX11_step [.ref 0, .int y12, .int (nI 0)] σ15 (fun σ16 => WP E shR mX11_times (d + 1) 4 [some (.ref 0), none] [] σ16 (k_qn K))))) ∧ (¬ y10 = (nI 47) → CallI E shR d mX11_look [.ref 0] σ9 (fun y18 σ17 => (¬ y18 = (nI 37) → K σ17) ∧ (y18 = (nI 37) → CallI E shR d mX11_look [.ref 0] σ17 (fun y20 σ19 => ∀ σ21, σ21 = k_put σ19 0 (upd (σ19 0) 13 ((σ19 0 13) + (nI 1))) → CallN E shR d mX11_one [.ref 0] σ21 (fun σ23 => CallN E shR d mX11_step [.ref 0, .int y20, .int (nI 0)] σ23 (fun σ24 => WP E shR mX11_times (d + 1) 4 [some (.ref 0), none] [] σ24 (k_qn K)))))))))))) : WP E shR mX11_times (d + 1) 4 [some (.ref 0), none] [] σ (k_qn K) := by
  refine wp_aload_n (i := 0) dX11_times_4 rfl rfl ?_
  refine wp_getI dX11_times_5 lf_X11_141 hR_0 rfl ?_
  refine wp_ifne (tgt := 66) dX11_times_8 (by decide) ⟨fun q => ?_, fun q => ?_⟩
  · replace h := h.1 q
    exact wp_return dX11_times_66 rfl ⟨rfl, h⟩
  · replace h := h.2 q
    refine wp_aload_n (i := 0) dX11_times_11 rfl rfl ?_
    refine wp_callVI (vs := []) (rest := []) dX11_times_12 mV_X11_look lm_X11_137 hR_0 rfl rfl rfl (Nat.le_of_ble_eq_true rfl) (CallI.mono h (fun y2 σ1 h => ?_))
    refine wp_bipush (v := nI 42) dX11_times_15 (by decide) ?_
    refine wp_icmpeq (tgt := 38) dX11_times_17 (by decide) ⟨fun q => ?_, fun q => ?_⟩
    · replace h := h.1 q
      refine wp_aload_n (i := 0) dX11_times_38 rfl rfl ?_
      refine wp_callVI (vs := []) (rest := []) dX11_times_39 mV_X11_look lm_X11_137 hR_0 rfl rfl rfl (Nat.le_of_ble_eq_true rfl) (CallI.mono h (fun y4 σ3 h => ?_))
      refine wp_istore_n (i := 1) (Lo' := [some (.ref 0), some (.int y4)]) dX11_times_42 rfl (by decide) rfl rfl ?_
      refine wp_aload_n (i := 0) dX11_times_43 rfl rfl ?_
      refine wp_dup dX11_times_44 rfl ?_
      refine wp_getI dX11_times_45 lf_X11_127 hR_0 rfl ?_
      refine wp_iconst (v := nI 1) dX11_times_48 rfl ?_
      refine wp_iadd dX11_times_49 ?_
      refine wp_put dX11_times_50 lp_X11_127 hR_0 rfl ⟨⟨rfl, rfl⟩, ?_⟩
      refine wp_nm (fun σ5 e6 => ?_)
      replace h := h σ5 e6
      refine wp_aload_n (i := 0) dX11_times_53 rfl rfl ?_
      refine wp_callVN (vs := []) (rest := []) dX11_times_54 mV_X11_one lm_X11_152 hR_0 rfl rfl rfl (Nat.le_of_ble_eq_true rfl) (CallN.mono h (fun σ7 h => ?_))
      refine wp_aload_n (i := 0) dX11_times_57 rfl rfl ?_
      refine wp_iload_n (i := 1) dX11_times_58 rfl rfl ?_
      refine wp_iconst (v := nI 0) dX11_times_59 rfl ?_
      refine wp_callVN (vs := [.int y4, .int (nI 0)]) (rest := []) dX11_times_60 mV_X11_step lm_X11_145 hR_0 rfl rfl rfl (Nat.le_of_ble_eq_true rfl) (CallN.mono h (fun σ8 h => ?_))
      refine wp_goto (tgt := 4) dX11_times_63 (by decide) ?_
      exact wp_mask [true, false] h
    · replace h := h.2 q
      refine wp_aload_n (i := 0) dX11_times_20 rfl rfl ?_
      refine wp_callVI (vs := []) (rest := []) dX11_times_21 mV_X11_look lm_X11_137 hR_0 rfl rfl rfl (Nat.le_of_ble_eq_true rfl) (CallI.mono h (fun y10 σ9 h => ?_))
      refine wp_bipush (v := nI 47) dX11_times_24 (by decide) ?_
      refine wp_icmpeq (tgt := 38) dX11_times_26 (by decide) ⟨fun q => ?_, fun q => ?_⟩
      · replace h := h.1 q
        refine wp_aload_n (i := 0) dX11_times_38 rfl rfl ?_
        refine wp_callVI (vs := []) (rest := []) dX11_times_39 mV_X11_look lm_X11_137 hR_0 rfl rfl rfl (Nat.le_of_ble_eq_true rfl) (CallI.mono h (fun y12 σ11 h => ?_))
        refine wp_istore_n (i := 1) (Lo' := [some (.ref 0), some (.int y12)]) dX11_times_42 rfl (by decide) rfl rfl ?_
        refine wp_aload_n (i := 0) dX11_times_43 rfl rfl ?_
        refine wp_dup dX11_times_44 rfl ?_
        refine wp_getI dX11_times_45 lf_X11_127 hR_0 rfl ?_
        refine wp_iconst (v := nI 1) dX11_times_48 rfl ?_
        refine wp_iadd dX11_times_49 ?_
        refine wp_put dX11_times_50 lp_X11_127 hR_0 rfl ⟨⟨rfl, rfl⟩, ?_⟩
        refine wp_nm (fun σ13 e14 => ?_)
        replace h := h σ13 e14
        refine wp_aload_n (i := 0) dX11_times_53 rfl rfl ?_
        refine wp_callVN (vs := []) (rest := []) dX11_times_54 mV_X11_one lm_X11_152 hR_0 rfl rfl rfl (Nat.le_of_ble_eq_true rfl) (CallN.mono h (fun σ15 h => ?_))
        refine wp_aload_n (i := 0) dX11_times_57 rfl rfl ?_
        refine wp_iload_n (i := 1) dX11_times_58 rfl rfl ?_
        refine wp_iconst (v := nI 0) dX11_times_59 rfl ?_
        refine wp_callVN (vs := [.int y12, .int (nI 0)]) (rest := []) dX11_times_60 mV_X11_step lm_X11_145 hR_0 rfl rfl rfl (Nat.le_of_ble_eq_true rfl) (CallN.mono h (fun σ16 h => ?_))
        refine wp_goto (tgt := 4) dX11_times_63 (by decide) ?_
        exact wp_mask [true, false] h
      · replace h := h.2 q
        refine wp_aload_n (i := 0) dX11_times_29 rfl rfl ?_
        refine wp_callVI (vs := []) (rest := []) dX11_times_30 mV_X11_look lm_X11_137 hR_0 rfl rfl rfl (Nat.le_of_ble_eq_true rfl) (CallI.mono h (fun y18 σ17 h => ?_))
        refine wp_bipush (v := nI 37) dX11_times_33 (by decide) ?_
        refine wp_icmpne (tgt := 66) dX11_times_35 (by decide) ⟨fun q => ?_, fun q => ?_⟩
        · replace h := h.1 q
          exact wp_return dX11_times_66 rfl ⟨rfl, h⟩
        · replace h := h.2 q
          refine wp_aload_n (i := 0) dX11_times_38 rfl rfl ?_
          refine wp_callVI (vs := []) (rest := []) dX11_times_39 mV_X11_look lm_X11_137 hR_0 rfl rfl rfl (Nat.le_of_ble_eq_true rfl) (CallI.mono h (fun y20 σ19 h => ?_))
          refine wp_istore_n (i := 1) (Lo' := [some (.ref 0), some (.int y20)]) dX11_times_42 rfl (by decide) rfl rfl ?_
          refine wp_aload_n (i := 0) dX11_times_43 rfl rfl ?_
          refine wp_dup dX11_times_44 rfl ?_
          refine wp_getI dX11_times_45 lf_X11_127 hR_0 rfl ?_
          refine wp_iconst (v := nI 1) dX11_times_48 rfl ?_
          refine wp_iadd dX11_times_49 ?_
          refine wp_put dX11_times_50 lp_X11_127 hR_0 rfl ⟨⟨rfl, rfl⟩, ?_⟩
          refine wp_nm (fun σ21 e22 => ?_)
          replace h := h σ21 e22
          refine wp_aload_n (i := 0) dX11_times_53 rfl rfl ?_
          refine wp_callVN (vs := []) (rest := []) dX11_times_54 mV_X11_one lm_X11_152 hR_0 rfl rfl rfl (Nat.le_of_ble_eq_true rfl) (CallN.mono h (fun σ23 h => ?_))
          refine wp_aload_n (i := 0) dX11_times_57 rfl rfl ?_
          refine wp_iload_n (i := 1) dX11_times_58 rfl rfl ?_
          refine wp_iconst (v := nI 0) dX11_times_59 rfl ?_
          refine wp_callVN (vs := [.int y20, .int (nI 0)]) (rest := []) dX11_times_60 mV_X11_step lm_X11_145 hR_0 rfl rfl rfl (Nat.le_of_ble_eq_true rfl) (CallN.mono h (fun σ24 h => ?_))
          refine wp_goto (tgt := 4) dX11_times_63 (by decide) ?_
          exact wp_mask [true, false] h
set_option maxRecDepth 20000 in
set_option maxHeartbeats 2000000 in
theorem vc_Md_times {E : KE} {d : Nat} {σ : Sg} {K : Sg → Prop} (h : CallN E shR d mX11_one [.ref 0] σ (fun σ1 => WP E shR mX11_times (d + 1) 4 [some (.ref 0), none] [] σ1 (k_qn K))) : CallN E shR (d + 1) mX11_times [.ref 0] σ K := by
  refine wp_enter (Lo := [some (.ref 0), none]) mp_X11_times (Nat.le_of_ble_eq_true rfl) rfl ?_
  refine wp_aload_n (i := 0) dX11_times_0 rfl rfl ?_
  refine wp_callVN (vs := []) (rest := []) dX11_times_1 mV_X11_one lm_X11_152 hR_0 rfl rfl rfl (Nat.le_of_ble_eq_true rfl) (CallN.mono h (fun σ1 h => ?_))
  exact wp_mask [true, false] h
set_option maxRecDepth 20000 in
set_option maxHeartbeats 2000000 in
theorem vb_Md_sum_4 {E : KE} {d : Nat} {σ : Sg} {K : Sg → Prop} (h : (¬ (σ 0 15) = 0 → K σ) ∧ ((σ 0 15) = 0 → CallI E shR d mX11_look [.ref 0] σ (fun y2 σ1 => (y2 = (nI 43) → CallI E shR d mX11_look [.ref 0] σ1 (fun y4 σ3 => ∀ σ5, σ5 = k_put σ3 0 (upd (σ3 0) 13 ((σ3 0 13) + (nI 1))) → CallN E shR d mX11_times [.ref 0] σ5 (fun σ7 => CallN E shR d mX11_step [.ref 0, .int y4, .int (nI 0)] σ7 (fun σ8 => WP E shR mX11_sum (d + 1) 4 [some (.ref 0), none] [] σ8 (k_qn K))))) ∧ (¬ y2 = (nI 43) → CallI E shR d mX11_look [.ref 0] σ1 (fun y10 σ9 => (¬ y10 = (nI 45) → K σ9) ∧ (y10 = (nI 45) → CallI E shR d mX11_look [.ref 0] σ9 (fun y12 σ11 => ∀ σ13, σ13 = k_put σ11 0 (upd (σ11 0) 13 ((σ11 0 13) + (nI 1))) → CallN E shR d mX11_times [.ref 0] σ13 (fun σ15 => CallN E shR d mX11_step [.ref 0, .int y12, .int (nI 0)] σ15 (fun σ16 => WP E shR mX11_sum (d + 1) 4 [some (.ref 0), none] [] σ16 (k_qn K)))))))))) : WP E shR mX11_sum (d + 1) 4 [some (.ref 0), none] [] σ (k_qn K) := by
  refine wp_aload_n (i := 0) dX11_sum_4 rfl rfl ?_
  refine wp_getI dX11_sum_5 lf_X11_141 hR_0 rfl ?_
  refine wp_ifne (tgt := 57) dX11_sum_8 (by decide) ⟨fun q => ?_, fun q => ?_⟩
  · replace h := h.1 q
    exact wp_return dX11_sum_57 rfl ⟨rfl, h⟩
  · replace h := h.2 q
    refine wp_aload_n (i := 0) dX11_sum_11 rfl rfl ?_
    refine wp_callVI (vs := []) (rest := []) dX11_sum_12 mV_X11_look lm_X11_137 hR_0 rfl rfl rfl (Nat.le_of_ble_eq_true rfl) (CallI.mono h (fun y2 σ1 h => ?_))
    refine wp_bipush (v := nI 43) dX11_sum_15 (by decide) ?_
    refine wp_icmpeq (tgt := 29) dX11_sum_17 (by decide) ⟨fun q => ?_, fun q => ?_⟩
    · replace h := h.1 q
      refine wp_aload_n (i := 0) dX11_sum_29 rfl rfl ?_
      refine wp_callVI (vs := []) (rest := []) dX11_sum_30 mV_X11_look lm_X11_137 hR_0 rfl rfl rfl (Nat.le_of_ble_eq_true rfl) (CallI.mono h (fun y4 σ3 h => ?_))
      refine wp_istore_n (i := 1) (Lo' := [some (.ref 0), some (.int y4)]) dX11_sum_33 rfl (by decide) rfl rfl ?_
      refine wp_aload_n (i := 0) dX11_sum_34 rfl rfl ?_
      refine wp_dup dX11_sum_35 rfl ?_
      refine wp_getI dX11_sum_36 lf_X11_127 hR_0 rfl ?_
      refine wp_iconst (v := nI 1) dX11_sum_39 rfl ?_
      refine wp_iadd dX11_sum_40 ?_
      refine wp_put dX11_sum_41 lp_X11_127 hR_0 rfl ⟨⟨rfl, rfl⟩, ?_⟩
      refine wp_nm (fun σ5 e6 => ?_)
      replace h := h σ5 e6
      refine wp_aload_n (i := 0) dX11_sum_44 rfl rfl ?_
      refine wp_callVN (vs := []) (rest := []) dX11_sum_45 mV_X11_times lm_X11_168 hR_0 rfl rfl rfl (Nat.le_of_ble_eq_true rfl) (CallN.mono h (fun σ7 h => ?_))
      refine wp_aload_n (i := 0) dX11_sum_48 rfl rfl ?_
      refine wp_iload_n (i := 1) dX11_sum_49 rfl rfl ?_
      refine wp_iconst (v := nI 0) dX11_sum_50 rfl ?_
      refine wp_callVN (vs := [.int y4, .int (nI 0)]) (rest := []) dX11_sum_51 mV_X11_step lm_X11_145 hR_0 rfl rfl rfl (Nat.le_of_ble_eq_true rfl) (CallN.mono h (fun σ8 h => ?_))
      refine wp_goto (tgt := 4) dX11_sum_54 (by decide) ?_
      exact wp_mask [true, false] h
    · replace h := h.2 q
      refine wp_aload_n (i := 0) dX11_sum_20 rfl rfl ?_
      refine wp_callVI (vs := []) (rest := []) dX11_sum_21 mV_X11_look lm_X11_137 hR_0 rfl rfl rfl (Nat.le_of_ble_eq_true rfl) (CallI.mono h (fun y10 σ9 h => ?_))
      refine wp_bipush (v := nI 45) dX11_sum_24 (by decide) ?_
      refine wp_icmpne (tgt := 57) dX11_sum_26 (by decide) ⟨fun q => ?_, fun q => ?_⟩
      · replace h := h.1 q
        exact wp_return dX11_sum_57 rfl ⟨rfl, h⟩
      · replace h := h.2 q
        refine wp_aload_n (i := 0) dX11_sum_29 rfl rfl ?_
        refine wp_callVI (vs := []) (rest := []) dX11_sum_30 mV_X11_look lm_X11_137 hR_0 rfl rfl rfl (Nat.le_of_ble_eq_true rfl) (CallI.mono h (fun y12 σ11 h => ?_))
        refine wp_istore_n (i := 1) (Lo' := [some (.ref 0), some (.int y12)]) dX11_sum_33 rfl (by decide) rfl rfl ?_
        refine wp_aload_n (i := 0) dX11_sum_34 rfl rfl ?_
        refine wp_dup dX11_sum_35 rfl ?_
        refine wp_getI dX11_sum_36 lf_X11_127 hR_0 rfl ?_
        refine wp_iconst (v := nI 1) dX11_sum_39 rfl ?_
        refine wp_iadd dX11_sum_40 ?_
        refine wp_put dX11_sum_41 lp_X11_127 hR_0 rfl ⟨⟨rfl, rfl⟩, ?_⟩
        refine wp_nm (fun σ13 e14 => ?_)
        replace h := h σ13 e14
        refine wp_aload_n (i := 0) dX11_sum_44 rfl rfl ?_
        refine wp_callVN (vs := []) (rest := []) dX11_sum_45 mV_X11_times lm_X11_168 hR_0 rfl rfl rfl (Nat.le_of_ble_eq_true rfl) (CallN.mono h (fun σ15 h => ?_))
        refine wp_aload_n (i := 0) dX11_sum_48 rfl rfl ?_
        refine wp_iload_n (i := 1) dX11_sum_49 rfl rfl ?_
        refine wp_iconst (v := nI 0) dX11_sum_50 rfl ?_
        refine wp_callVN (vs := [.int y12, .int (nI 0)]) (rest := []) dX11_sum_51 mV_X11_step lm_X11_145 hR_0 rfl rfl rfl (Nat.le_of_ble_eq_true rfl) (CallN.mono h (fun σ16 h => ?_))
        refine wp_goto (tgt := 4) dX11_sum_54 (by decide) ?_
        exact wp_mask [true, false] h
set_option maxRecDepth 20000 in
set_option maxHeartbeats 2000000 in
theorem vc_Md_sum {E : KE} {d : Nat} {σ : Sg} {K : Sg → Prop} (h : CallN E shR d mX11_times [.ref 0] σ (fun σ1 => WP E shR mX11_sum (d + 1) 4 [some (.ref 0), none] [] σ1 (k_qn K))) : CallN E shR (d + 1) mX11_sum [.ref 0] σ K := by
  refine wp_enter (Lo := [some (.ref 0), none]) mp_X11_sum (Nat.le_of_ble_eq_true rfl) rfl ?_
  refine wp_aload_n (i := 0) dX11_sum_0 rfl rfl ?_
  refine wp_callVN (vs := []) (rest := []) dX11_sum_1 mV_X11_times lm_X11_168 hR_0 rfl rfl rfl (Nat.le_of_ble_eq_true rfl) (CallN.mono h (fun σ1 h => ?_))
  exact wp_mask [true, false] h
set_option maxRecDepth 20000 in
set_option maxHeartbeats 2000000 in
theorem vc_Md_compares {E : KE} {d : Nat} {σ : Sg} {K : Sg → Prop} (h : CallN E shR d mX11_sum [.ref 0] σ (fun σ1 => CallI E shR d mX11_look [.ref 0] σ1 (fun y3 σ2 => (¬ (σ2 0 15) = 0 → K σ2) ∧ ((σ2 0 15) = 0 → (y3 = (nI 60) → ∀ σ4, σ4 = k_put σ2 0 (upd (σ2 0) 13 ((σ2 0 13) + (nI 1))) → CallN E shR d mX11_sum [.ref 0] σ4 (fun σ6 => CallN E shR d mX11_step [.ref 0, .int y3, .int (nI 0)] σ6 (fun σ7 => K σ7))) ∧ (¬ y3 = (nI 60) → (y3 = (nI 61) → ∀ σ8, σ8 = k_put σ2 0 (upd (σ2 0) 13 ((σ2 0 13) + (nI 1))) → CallN E shR d mX11_sum [.ref 0] σ8 (fun σ10 => CallN E shR d mX11_step [.ref 0, .int y3, .int (nI 0)] σ10 (fun σ11 => K σ11))) ∧ (¬ y3 = (nI 61) → (¬ y3 = (nI 62) → K σ2) ∧ (y3 = (nI 62) → ∀ σ12, σ12 = k_put σ2 0 (upd (σ2 0) 13 ((σ2 0 13) + (nI 1))) → CallN E shR d mX11_sum [.ref 0] σ12 (fun σ14 => CallN E shR d mX11_step [.ref 0, .int y3, .int (nI 0)] σ14 (fun σ15 => K σ15))))))))) : CallN E shR (d + 1) mX11_compares [.ref 0] σ K := by
  refine wp_enter (Lo := [some (.ref 0), none]) mp_X11_compares (Nat.le_of_ble_eq_true rfl) rfl ?_
  refine wp_aload_n (i := 0) dX11_compares_0 rfl rfl ?_
  refine wp_callVN (vs := []) (rest := []) dX11_compares_1 mV_X11_sum lm_X11_171 hR_0 rfl rfl rfl (Nat.le_of_ble_eq_true rfl) (CallN.mono h (fun σ1 h => ?_))
  refine wp_aload_n (i := 0) dX11_compares_4 rfl rfl ?_
  refine wp_callVI (vs := []) (rest := []) dX11_compares_5 mV_X11_look lm_X11_137 hR_0 rfl rfl rfl (Nat.le_of_ble_eq_true rfl) (CallI.mono h (fun y3 σ2 h => ?_))
  refine wp_istore_n (i := 1) (Lo' := [some (.ref 0), some (.int y3)]) dX11_compares_8 rfl (by decide) rfl rfl ?_
  refine wp_aload_n (i := 0) dX11_compares_9 rfl rfl ?_
  refine wp_getI dX11_compares_10 lf_X11_141 hR_0 rfl ?_
  refine wp_ifne (tgt := 54) dX11_compares_13 (by decide) ⟨fun q => ?_, fun q => ?_⟩
  · replace h := h.1 q
    exact wp_return dX11_compares_54 rfl ⟨rfl, h⟩
  · replace h := h.2 q
    refine wp_iload_n (i := 1) dX11_compares_16 rfl rfl ?_
    refine wp_bipush (v := nI 60) dX11_compares_17 (by decide) ?_
    refine wp_icmpeq (tgt := 34) dX11_compares_19 (by decide) ⟨fun q => ?_, fun q => ?_⟩
    · replace h := h.1 q
      refine wp_aload_n (i := 0) dX11_compares_34 rfl rfl ?_
      refine wp_dup dX11_compares_35 rfl ?_
      refine wp_getI dX11_compares_36 lf_X11_127 hR_0 rfl ?_
      refine wp_iconst (v := nI 1) dX11_compares_39 rfl ?_
      refine wp_iadd dX11_compares_40 ?_
      refine wp_put dX11_compares_41 lp_X11_127 hR_0 rfl ⟨⟨rfl, rfl⟩, ?_⟩
      refine wp_nm (fun σ4 e5 => ?_)
      replace h := h σ4 e5
      refine wp_aload_n (i := 0) dX11_compares_44 rfl rfl ?_
      refine wp_callVN (vs := []) (rest := []) dX11_compares_45 mV_X11_sum lm_X11_171 hR_0 rfl rfl rfl (Nat.le_of_ble_eq_true rfl) (CallN.mono h (fun σ6 h => ?_))
      refine wp_aload_n (i := 0) dX11_compares_48 rfl rfl ?_
      refine wp_iload_n (i := 1) dX11_compares_49 rfl rfl ?_
      refine wp_iconst (v := nI 0) dX11_compares_50 rfl ?_
      refine wp_callVN (vs := [.int y3, .int (nI 0)]) (rest := []) dX11_compares_51 mV_X11_step lm_X11_145 hR_0 rfl rfl rfl (Nat.le_of_ble_eq_true rfl) (CallN.mono h (fun σ7 h => ?_))
      exact wp_return dX11_compares_54 rfl ⟨rfl, h⟩
    · replace h := h.2 q
      refine wp_iload_n (i := 1) dX11_compares_22 rfl rfl ?_
      refine wp_bipush (v := nI 61) dX11_compares_23 (by decide) ?_
      refine wp_icmpeq (tgt := 34) dX11_compares_25 (by decide) ⟨fun q => ?_, fun q => ?_⟩
      · replace h := h.1 q
        refine wp_aload_n (i := 0) dX11_compares_34 rfl rfl ?_
        refine wp_dup dX11_compares_35 rfl ?_
        refine wp_getI dX11_compares_36 lf_X11_127 hR_0 rfl ?_
        refine wp_iconst (v := nI 1) dX11_compares_39 rfl ?_
        refine wp_iadd dX11_compares_40 ?_
        refine wp_put dX11_compares_41 lp_X11_127 hR_0 rfl ⟨⟨rfl, rfl⟩, ?_⟩
        refine wp_nm (fun σ8 e9 => ?_)
        replace h := h σ8 e9
        refine wp_aload_n (i := 0) dX11_compares_44 rfl rfl ?_
        refine wp_callVN (vs := []) (rest := []) dX11_compares_45 mV_X11_sum lm_X11_171 hR_0 rfl rfl rfl (Nat.le_of_ble_eq_true rfl) (CallN.mono h (fun σ10 h => ?_))
        refine wp_aload_n (i := 0) dX11_compares_48 rfl rfl ?_
        refine wp_iload_n (i := 1) dX11_compares_49 rfl rfl ?_
        refine wp_iconst (v := nI 0) dX11_compares_50 rfl ?_
        refine wp_callVN (vs := [.int y3, .int (nI 0)]) (rest := []) dX11_compares_51 mV_X11_step lm_X11_145 hR_0 rfl rfl rfl (Nat.le_of_ble_eq_true rfl) (CallN.mono h (fun σ11 h => ?_))
        exact wp_return dX11_compares_54 rfl ⟨rfl, h⟩
      · replace h := h.2 q
        refine wp_iload_n (i := 1) dX11_compares_28 rfl rfl ?_
        refine wp_bipush (v := nI 62) dX11_compares_29 (by decide) ?_
        refine wp_icmpne (tgt := 54) dX11_compares_31 (by decide) ⟨fun q => ?_, fun q => ?_⟩
        · replace h := h.1 q
          exact wp_return dX11_compares_54 rfl ⟨rfl, h⟩
        · replace h := h.2 q
          refine wp_aload_n (i := 0) dX11_compares_34 rfl rfl ?_
          refine wp_dup dX11_compares_35 rfl ?_
          refine wp_getI dX11_compares_36 lf_X11_127 hR_0 rfl ?_
          refine wp_iconst (v := nI 1) dX11_compares_39 rfl ?_
          refine wp_iadd dX11_compares_40 ?_
          refine wp_put dX11_compares_41 lp_X11_127 hR_0 rfl ⟨⟨rfl, rfl⟩, ?_⟩
          refine wp_nm (fun σ12 e13 => ?_)
          replace h := h σ12 e13
          refine wp_aload_n (i := 0) dX11_compares_44 rfl rfl ?_
          refine wp_callVN (vs := []) (rest := []) dX11_compares_45 mV_X11_sum lm_X11_171 hR_0 rfl rfl rfl (Nat.le_of_ble_eq_true rfl) (CallN.mono h (fun σ14 h => ?_))
          refine wp_aload_n (i := 0) dX11_compares_48 rfl rfl ?_
          refine wp_iload_n (i := 1) dX11_compares_49 rfl rfl ?_
          refine wp_iconst (v := nI 0) dX11_compares_50 rfl ?_
          refine wp_callVN (vs := [.int y3, .int (nI 0)]) (rest := []) dX11_compares_51 mV_X11_step lm_X11_145 hR_0 rfl rfl rfl (Nat.le_of_ble_eq_true rfl) (CallN.mono h (fun σ15 h => ?_))
          exact wp_return dX11_compares_54 rfl ⟨rfl, h⟩
set_option maxRecDepth 20000 in
set_option maxHeartbeats 2000000 in
theorem vb_Md_all_4 {E : KE} {d : Nat} {σ : Sg} {K : Sg → Prop} (h : (¬ (σ 0 15) = 0 → K σ) ∧ ((σ 0 15) = 0 → CallI E shR d mX11_look [.ref 0] σ (fun y2 σ1 => (¬ y2 = (nI 38) → K σ1) ∧ (y2 = (nI 38) → ∀ σ3, σ3 = k_put σ1 0 (upd (σ1 0) 13 ((σ1 0 13) + (nI 1))) → CallN E shR d mX11_compares [.ref 0] σ3 (fun σ5 => CallN E shR d mX11_step [.ref 0, .int (nI 38), .int (nI 0)] σ5 (fun σ6 => WP E shR mX11_all (d + 1) 4 [some (.ref 0)] [] σ6 (k_qn K))))))) : WP E shR mX11_all (d + 1) 4 [some (.ref 0)] [] σ (k_qn K) := by
  refine wp_aload_n (i := 0) dX11_all_4 rfl rfl ?_
  refine wp_getI dX11_all_5 lf_X11_141 hR_0 rfl ?_
  refine wp_ifne (tgt := 44) dX11_all_8 (by decide) ⟨fun q => ?_, fun q => ?_⟩
  · replace h := h.1 q
    exact wp_return dX11_all_44 rfl ⟨rfl, h⟩
  · replace h := h.2 q
    refine wp_aload_n (i := 0) dX11_all_11 rfl rfl ?_
    refine wp_callVI (vs := []) (rest := []) dX11_all_12 mV_X11_look lm_X11_137 hR_0 rfl rfl rfl (Nat.le_of_ble_eq_true rfl) (CallI.mono h (fun y2 σ1 h => ?_))
    refine wp_bipush (v := nI 38) dX11_all_15 (by decide) ?_
    refine wp_icmpne (tgt := 44) dX11_all_17 (by decide) ⟨fun q => ?_, fun q => ?_⟩
    · replace h := h.1 q
      exact wp_return dX11_all_44 rfl ⟨rfl, h⟩
    · replace h := h.2 q
      refine wp_aload_n (i := 0) dX11_all_20 rfl rfl ?_
      refine wp_dup dX11_all_21 rfl ?_
      refine wp_getI dX11_all_22 lf_X11_127 hR_0 rfl ?_
      refine wp_iconst (v := nI 1) dX11_all_25 rfl ?_
      refine wp_iadd dX11_all_26 ?_
      refine wp_put dX11_all_27 lp_X11_127 hR_0 rfl ⟨⟨rfl, rfl⟩, ?_⟩
      refine wp_nm (fun σ3 e4 => ?_)
      replace h := h σ3 e4
      refine wp_aload_n (i := 0) dX11_all_30 rfl rfl ?_
      refine wp_callVN (vs := []) (rest := []) dX11_all_31 mV_X11_compares lm_X11_174 hR_0 rfl rfl rfl (Nat.le_of_ble_eq_true rfl) (CallN.mono h (fun σ5 h => ?_))
      refine wp_aload_n (i := 0) dX11_all_34 rfl rfl ?_
      refine wp_bipush (v := nI 38) dX11_all_35 (by decide) ?_
      refine wp_iconst (v := nI 0) dX11_all_37 rfl ?_
      refine wp_callVN (vs := [.int (nI 38), .int (nI 0)]) (rest := []) dX11_all_38 mV_X11_step lm_X11_145 hR_0 rfl rfl rfl (Nat.le_of_ble_eq_true rfl) (CallN.mono h (fun σ6 h => ?_))
      refine wp_goto (tgt := 4) dX11_all_41 (by decide) ?_
      exact wp_mask [true] h
set_option maxRecDepth 20000 in
set_option maxHeartbeats 2000000 in
theorem vc_Md_all {E : KE} {d : Nat} {σ : Sg} {K : Sg → Prop} (h : CallN E shR d mX11_compares [.ref 0] σ (fun σ1 => WP E shR mX11_all (d + 1) 4 [some (.ref 0)] [] σ1 (k_qn K))) : CallN E shR (d + 1) mX11_all [.ref 0] σ K := by
  refine wp_enter (Lo := [some (.ref 0)]) mp_X11_all (Nat.le_of_ble_eq_true rfl) rfl ?_
  refine wp_aload_n (i := 0) dX11_all_0 rfl rfl ?_
  refine wp_callVN (vs := []) (rest := []) dX11_all_1 mV_X11_compares lm_X11_174 hR_0 rfl rfl rfl (Nat.le_of_ble_eq_true rfl) (CallN.mono h (fun σ1 h => ?_))
  exact wp_mask [true] h
set_option maxRecDepth 20000 in
set_option maxHeartbeats 2000000 in
theorem vb_Md_any_4 {E : KE} {d : Nat} {σ : Sg} {K : Sg → Prop} (h : (¬ (σ 0 15) = 0 → K σ) ∧ ((σ 0 15) = 0 → CallI E shR d mX11_look [.ref 0] σ (fun y2 σ1 => (¬ y2 = (nI 124) → K σ1) ∧ (y2 = (nI 124) → ∀ σ3, σ3 = k_put σ1 0 (upd (σ1 0) 13 ((σ1 0 13) + (nI 1))) → CallN E shR d mX11_all [.ref 0] σ3 (fun σ5 => CallN E shR d mX11_step [.ref 0, .int (nI 124), .int (nI 0)] σ5 (fun σ6 => WP E shR mX11_any (d + 1) 4 [some (.ref 0)] [] σ6 (k_qn K))))))) : WP E shR mX11_any (d + 1) 4 [some (.ref 0)] [] σ (k_qn K) := by
  refine wp_aload_n (i := 0) dX11_any_4 rfl rfl ?_
  refine wp_getI dX11_any_5 lf_X11_141 hR_0 rfl ?_
  refine wp_ifne (tgt := 44) dX11_any_8 (by decide) ⟨fun q => ?_, fun q => ?_⟩
  · replace h := h.1 q
    exact wp_return dX11_any_44 rfl ⟨rfl, h⟩
  · replace h := h.2 q
    refine wp_aload_n (i := 0) dX11_any_11 rfl rfl ?_
    refine wp_callVI (vs := []) (rest := []) dX11_any_12 mV_X11_look lm_X11_137 hR_0 rfl rfl rfl (Nat.le_of_ble_eq_true rfl) (CallI.mono h (fun y2 σ1 h => ?_))
    refine wp_bipush (v := nI 124) dX11_any_15 (by decide) ?_
    refine wp_icmpne (tgt := 44) dX11_any_17 (by decide) ⟨fun q => ?_, fun q => ?_⟩
    · replace h := h.1 q
      exact wp_return dX11_any_44 rfl ⟨rfl, h⟩
    · replace h := h.2 q
      refine wp_aload_n (i := 0) dX11_any_20 rfl rfl ?_
      refine wp_dup dX11_any_21 rfl ?_
      refine wp_getI dX11_any_22 lf_X11_127 hR_0 rfl ?_
      refine wp_iconst (v := nI 1) dX11_any_25 rfl ?_
      refine wp_iadd dX11_any_26 ?_
      refine wp_put dX11_any_27 lp_X11_127 hR_0 rfl ⟨⟨rfl, rfl⟩, ?_⟩
      refine wp_nm (fun σ3 e4 => ?_)
      replace h := h σ3 e4
      refine wp_aload_n (i := 0) dX11_any_30 rfl rfl ?_
      refine wp_callVN (vs := []) (rest := []) dX11_any_31 mV_X11_all lm_X11_177 hR_0 rfl rfl rfl (Nat.le_of_ble_eq_true rfl) (CallN.mono h (fun σ5 h => ?_))
      refine wp_aload_n (i := 0) dX11_any_34 rfl rfl ?_
      refine wp_bipush (v := nI 124) dX11_any_35 (by decide) ?_
      refine wp_iconst (v := nI 0) dX11_any_37 rfl ?_
      refine wp_callVN (vs := [.int (nI 124), .int (nI 0)]) (rest := []) dX11_any_38 mV_X11_step lm_X11_145 hR_0 rfl rfl rfl (Nat.le_of_ble_eq_true rfl) (CallN.mono h (fun σ6 h => ?_))
      refine wp_goto (tgt := 4) dX11_any_41 (by decide) ?_
      exact wp_mask [true] h
set_option maxRecDepth 20000 in
set_option maxHeartbeats 2000000 in
theorem vc_Md_any {E : KE} {d : Nat} {σ : Sg} {K : Sg → Prop} (h : CallN E shR d mX11_all [.ref 0] σ (fun σ1 => WP E shR mX11_any (d + 1) 4 [some (.ref 0)] [] σ1 (k_qn K))) : CallN E shR (d + 1) mX11_any [.ref 0] σ K := by
  refine wp_enter (Lo := [some (.ref 0)]) mp_X11_any (Nat.le_of_ble_eq_true rfl) rfl ?_
  refine wp_aload_n (i := 0) dX11_any_0 rfl rfl ?_
  refine wp_callVN (vs := []) (rest := []) dX11_any_1 mV_X11_all lm_X11_177 hR_0 rfl rfl rfl (Nat.le_of_ble_eq_true rfl) (CallN.mono h (fun σ1 h => ?_))
  exact wp_mask [true] h
set_option maxRecDepth 20000 in
set_option maxHeartbeats 2000000 in
theorem vb_Md_text_119 {E : KE} {d : Nat} {x2 : Int32} {x3 : Int32} {σ : Sg} {K : Int32 → Sg → Prop} (h : ((σ 0 12) ≤ x3 → K (nI 1) σ) ∧ (¬ (σ 0 12) ≤ x3 → vp_in x3 60 ∧ (vp_in ((x2 + (nI 1)) + x3) 552 ∧ (∀ σ1, σ1 = k_put σ 1 (upd (σ 1) ((x2 + (nI 1)) + x3).toNatClampNeg (σ 8 x3.toNatClampNeg)) → vp_in x3 60 ∧ (vp_in ((x2 + (nI 61)) + x3) 552 ∧ (∀ σ3, σ3 = k_put σ1 1 (upd (σ1 1) ((x2 + (nI 61)) + x3).toNatClampNeg (σ1 9 x3.toNatClampNeg)) → WP E shR mX11_text (d + 1) 119 [some (.ref 0), none, some (.int x2), some (.int (x3 + nI 1))] [] σ3 (k_qi K))))))) : WP E shR mX11_text (d + 1) 119 [some (.ref 0), none, some (.int x2), some (.int x3)] [] σ (k_qi K) := by
  refine wp_iload_n (i := 3) dX11_text_119 rfl rfl ?_
  refine wp_aload_n (i := 0) dX11_text_120 rfl rfl ?_
  refine wp_getI dX11_text_121 lf_X11_131 hR_0 rfl ?_
  refine wp_icmpge (tgt := 166) dX11_text_124 (by decide) ⟨fun q => ?_, fun q => ?_⟩
  · replace h := h.1 q
    refine wp_iconst (v := nI 1) dX11_text_166 rfl ?_
    exact wp_ireturn dX11_text_167 rfl ⟨_, rfl, h⟩
  · replace h := h.2 q
    refine wp_aload_n (i := 0) dX11_text_127 rfl rfl ?_
    refine wp_getR (t := 1) dX11_text_128 lf_X11_9 hR_0 rfl ?_
    refine wp_iload_n (i := 2) dX11_text_131 rfl rfl ?_
    refine wp_iconst (v := nI 1) dX11_text_132 rfl ?_
    refine wp_iadd dX11_text_133 ?_
    refine wp_iload_n (i := 3) dX11_text_134 rfl rfl ?_
    refine wp_iadd dX11_text_135 ?_
    refine wp_aload_n (i := 0) dX11_text_136 rfl rfl ?_
    refine wp_getR (t := 8) dX11_text_137 lf_X11_31 hR_0 rfl ?_
    refine wp_iload_n (i := 3) dX11_text_140 rfl rfl ?_
    refine wp_iald dX11_text_141 hR_8 ⟨h.1, ?_⟩
    replace h := h.2
    refine wp_iast dX11_text_142 hR_1 ⟨h.1, ?_⟩
    refine wp_nm (fun σ1 e2 => ?_)
    replace h := h.2 σ1 e2
    refine wp_aload_n (i := 0) dX11_text_143 rfl rfl ?_
    refine wp_getR (t := 1) dX11_text_144 lf_X11_9 hR_0 rfl ?_
    refine wp_iload_n (i := 2) dX11_text_147 rfl rfl ?_
    refine wp_bipush (v := nI 61) dX11_text_148 (by decide) ?_
    refine wp_iadd dX11_text_150 ?_
    refine wp_iload_n (i := 3) dX11_text_151 rfl rfl ?_
    refine wp_iadd dX11_text_152 ?_
    refine wp_aload_n (i := 0) dX11_text_153 rfl rfl ?_
    refine wp_getR (t := 9) dX11_text_154 lf_X11_34 hR_0 rfl ?_
    refine wp_iload_n (i := 3) dX11_text_157 rfl rfl ?_
    refine wp_iald dX11_text_158 hR_9 ⟨h.1, ?_⟩
    replace h := h.2
    refine wp_iast dX11_text_159 hR_1 ⟨h.1, ?_⟩
    refine wp_nm (fun σ3 e4 => ?_)
    replace h := h.2 σ3 e4
    refine wp_iinc (i := 3) (v := x3 + nI 1) (Lo' := [some (.ref 0), none, some (.int x2), some (.int (x3 + nI 1))]) dX11_text_160 rfl (by rfl) (by decide) rfl rfl ?_
    refine wp_goto (tgt := 119) dX11_text_163 (by decide) ?_
    exact wp_mask [true, false, true, true] h
set_option maxRecDepth 20000 in
set_option maxHeartbeats 2000000 in
theorem vc_Md_text {E : KE} {d : Nat} {x1 : Int32} {σ : Sg} {K : Int32 → Sg → Prop} (h : CallI E shR d mX11_in [.int x1, .int (nI 0), .int (nI 1)] σ (fun y2 σ1 => (¬ y2 = 0 → ∀ σ3, σ3 = k_put σ1 0 (upd (σ1 0) 16 x1) → ∀ σ5, σ5 = k_put σ3 0 (upd (σ3 0) 12 (nI 0)) → ∀ σ7, σ7 = k_put σ5 0 (upd (σ5 0) 13 (nI 0)) → ∀ σ9, σ9 = k_put σ7 0 (upd (σ7 0) 14 (nI 0)) → ∀ σ11, σ11 = k_put σ9 0 (upd (σ9 0) 15 (nI 0)) → CallN E shR d mX11_any [.ref 0] σ11 (fun σ13 => (¬ (σ13 0 15) = 0 → ∀ σ14, σ14 = k_put σ13 0 (upd (σ13 0) 15 (nI 1)) → vp_in (nI 8) 552 ∧ (∀ σ16, σ16 = k_put σ14 1 (upd (σ14 1) (nI 8).toNatClampNeg (nI 0)) → ((σ16 0 15) = 0 → vp_in ((nI 310) + ((nI 121) * x1)) 552 ∧ (∀ σ18, σ18 = k_put σ16 1 (upd (σ16 1) ((nI 310) + ((nI 121) * x1)).toNatClampNeg (σ16 0 12)) → WP E shR mX11_text (d + 1) 119 [some (.ref 0), none, some (.int ((nI 310) + ((nI 121) * x1))), some (.int (nI 0))] [] σ18 (k_qi K))) ∧ (¬ (σ16 0 15) = 0 → K ((-10 : Int32) - (σ16 0 13)) σ16))) ∧ ((σ13 0 15) = 0 → vp_in (nI 8) 552 ∧ (((σ13 1 (nI 8).toNatClampNeg) ≤ (σ13 0 13) → ∀ σ20, σ20 = k_put σ13 0 (upd (σ13 0) 15 (nI 0)) → vp_in (nI 8) 552 ∧ (∀ σ22, σ22 = k_put σ20 1 (upd (σ20 1) (nI 8).toNatClampNeg (nI 0)) → ((σ22 0 15) = 0 → vp_in ((nI 310) + ((nI 121) * x1)) 552 ∧ (∀ σ24, σ24 = k_put σ22 1 (upd (σ22 1) ((nI 310) + ((nI 121) * x1)).toNatClampNeg (σ22 0 12)) → WP E shR mX11_text (d + 1) 119 [some (.ref 0), none, some (.int ((nI 310) + ((nI 121) * x1))), some (.int (nI 0))] [] σ24 (k_qi K))) ∧ (¬ (σ22 0 15) = 0 → K ((-10 : Int32) - (σ22 0 13)) σ22))) ∧ (¬ (σ13 1 (nI 8).toNatClampNeg) ≤ (σ13 0 13) → ∀ σ26, σ26 = k_put σ13 0 (upd (σ13 0) 15 (nI 1)) → vp_in (nI 8) 552 ∧ (∀ σ28, σ28 = k_put σ26 1 (upd (σ26 1) (nI 8).toNatClampNeg (nI 0)) → ((σ28 0 15) = 0 → vp_in ((nI 310) + ((nI 121) * x1)) 552 ∧ (∀ σ30, σ30 = k_put σ28 1 (upd (σ28 1) ((nI 310) + ((nI 121) * x1)).toNatClampNeg (σ28 0 12)) → WP E shR mX11_text (d + 1) 119 [some (.ref 0), none, some (.int ((nI 310) + ((nI 121) * x1))), some (.int (nI 0))] [] σ30 (k_qi K))) ∧ (¬ (σ28 0 15) = 0 → K ((-10 : Int32) - (σ28 0 13)) σ28))))))) ∧ (y2 = 0 → CallI E shR d mX11_error [.ref 0, .int (-1000000001 : Int32)] σ1 (fun y33 σ32 => K y33 σ32)))) : CallI E shR (d + 1) mX11_text [.ref 0, .int x1] σ K := by
  refine wp_enter (Lo := [some (.ref 0), some (.int x1), none, none]) mp_X11_text (Nat.le_of_ble_eq_true rfl) rfl ?_
  refine wp_iload_n (i := 1) dX11_text_0 rfl rfl ?_
  refine wp_iconst (v := nI 0) dX11_text_1 rfl ?_
  refine wp_iconst (v := nI 1) dX11_text_2 rfl ?_
  refine wp_callSI (vs := [.int x1, .int (nI 0), .int (nI 1)]) (rest := []) dX11_text_3 mS_X11_in lm_X11_53 rfl rfl (Nat.le_of_ble_eq_true rfl) (CallI.mono h (fun y2 σ1 h => ?_))
  refine wp_ifne (tgt := 16) dX11_text_6 (by decide) ⟨fun q => ?_, fun q => ?_⟩
  · replace h := h.1 q
    refine wp_aload_n (i := 0) dX11_text_16 rfl rfl ?_
    refine wp_iload_n (i := 1) dX11_text_17 rfl rfl ?_
    refine wp_put dX11_text_18 lp_X11_134 hR_0 rfl ⟨⟨rfl, rfl⟩, ?_⟩
    refine wp_nm (fun σ3 e4 => ?_)
    replace h := h σ3 e4
    refine wp_aload_n (i := 0) dX11_text_21 rfl rfl ?_
    refine wp_iconst (v := nI 0) dX11_text_22 rfl ?_
    refine wp_put dX11_text_23 lp_X11_131 hR_0 rfl ⟨⟨rfl, rfl⟩, ?_⟩
    refine wp_nm (fun σ5 e6 => ?_)
    replace h := h σ5 e6
    refine wp_aload_n (i := 0) dX11_text_26 rfl rfl ?_
    refine wp_iconst (v := nI 0) dX11_text_27 rfl ?_
    refine wp_put dX11_text_28 lp_X11_127 hR_0 rfl ⟨⟨rfl, rfl⟩, ?_⟩
    refine wp_nm (fun σ7 e8 => ?_)
    replace h := h σ7 e8
    refine wp_aload_n (i := 0) dX11_text_31 rfl rfl ?_
    refine wp_iconst (v := nI 0) dX11_text_32 rfl ?_
    refine wp_put dX11_text_33 lp_X11_149 hR_0 rfl ⟨⟨rfl, rfl⟩, ?_⟩
    refine wp_nm (fun σ9 e10 => ?_)
    replace h := h σ9 e10
    refine wp_aload_n (i := 0) dX11_text_36 rfl rfl ?_
    refine wp_iconst (v := nI 0) dX11_text_37 rfl ?_
    refine wp_put dX11_text_38 lp_X11_141 hR_0 rfl ⟨⟨rfl, rfl⟩, ?_⟩
    refine wp_nm (fun σ11 e12 => ?_)
    replace h := h σ11 e12
    refine wp_aload_n (i := 0) dX11_text_41 rfl rfl ?_
    refine wp_callVN (vs := []) (rest := []) dX11_text_42 mV_X11_any lm_X11_155 hR_0 rfl rfl rfl (Nat.le_of_ble_eq_true rfl) (CallN.mono h (fun σ13 h => ?_))
    refine wp_aload_n (i := 0) dX11_text_45 rfl rfl ?_
    refine wp_aload_n (i := 0) dX11_text_46 rfl rfl ?_
    refine wp_getI dX11_text_47 lf_X11_141 hR_0 rfl ?_
    refine wp_ifne (tgt := 67) dX11_text_50 (by decide) ⟨fun q => ?_, fun q => ?_⟩
    · replace h := h.1 q
      refine wp_iconst (v := nI 1) dX11_text_67 rfl ?_
      refine wp_goto (tgt := 72) dX11_text_68 (by decide) ?_
      refine wp_put dX11_text_72 lp_X11_141 hR_0 rfl ⟨⟨rfl, rfl⟩, ?_⟩
      refine wp_nm (fun σ14 e15 => ?_)
      replace h := h σ14 e15
      refine wp_aload_n (i := 0) dX11_text_75 rfl rfl ?_
      refine wp_getR (t := 1) dX11_text_76 lf_X11_9 hR_0 rfl ?_
      refine wp_bipush (v := nI 8) dX11_text_79 (by decide) ?_
      refine wp_iconst (v := nI 0) dX11_text_81 rfl ?_
      refine wp_iast dX11_text_82 hR_1 ⟨h.1, ?_⟩
      refine wp_nm (fun σ16 e17 => ?_)
      replace h := h.2 σ16 e17
      refine wp_aload_n (i := 0) dX11_text_83 rfl rfl ?_
      refine wp_getI dX11_text_84 lf_X11_141 hR_0 rfl ?_
      refine wp_ifeq (tgt := 98) dX11_text_87 (by decide) ⟨fun q => ?_, fun q => ?_⟩
      · replace h := h.1 q
        refine wp_sipush (v := nI 310) dX11_text_98 (by decide) ?_
        refine wp_bipush (v := nI 121) dX11_text_101 (by decide) ?_
        refine wp_iload_n (i := 1) dX11_text_103 rfl rfl ?_
        refine wp_imul dX11_text_104 ?_
        refine wp_iadd dX11_text_105 ?_
        refine wp_istore_n (i := 2) (Lo' := [some (.ref 0), some (.int x1), some (.int ((nI 310) + ((nI 121) * x1))), none]) dX11_text_106 rfl (by decide) rfl rfl ?_
        refine wp_aload_n (i := 0) dX11_text_107 rfl rfl ?_
        refine wp_getR (t := 1) dX11_text_108 lf_X11_9 hR_0 rfl ?_
        refine wp_iload_n (i := 2) dX11_text_111 rfl rfl ?_
        refine wp_aload_n (i := 0) dX11_text_112 rfl rfl ?_
        refine wp_getI dX11_text_113 lf_X11_131 hR_0 rfl ?_
        refine wp_iast dX11_text_116 hR_1 ⟨h.1, ?_⟩
        refine wp_nm (fun σ18 e19 => ?_)
        replace h := h.2 σ18 e19
        refine wp_iconst (v := nI 0) dX11_text_117 rfl ?_
        refine wp_istore_n (i := 3) (Lo' := [some (.ref 0), some (.int x1), some (.int ((nI 310) + ((nI 121) * x1))), some (.int (nI 0))]) dX11_text_118 rfl (by decide) rfl rfl ?_
        exact wp_mask [true, false, true, true] h
      · replace h := h.2 q
        refine wp_bipush (v := (-10 : Int32)) dX11_text_90 (by decide) ?_
        refine wp_aload_n (i := 0) dX11_text_92 rfl rfl ?_
        refine wp_getI dX11_text_93 lf_X11_127 hR_0 rfl ?_
        refine wp_isub dX11_text_96 ?_
        exact wp_ireturn dX11_text_97 rfl ⟨_, rfl, h⟩
    · replace h := h.2 q
      refine wp_aload_n (i := 0) dX11_text_53 rfl rfl ?_
      refine wp_getI dX11_text_54 lf_X11_127 hR_0 rfl ?_
      refine wp_aload_n (i := 0) dX11_text_57 rfl rfl ?_
      refine wp_getR (t := 1) dX11_text_58 lf_X11_9 hR_0 rfl ?_
      refine wp_bipush (v := nI 8) dX11_text_61 (by decide) ?_
      refine wp_iald dX11_text_63 hR_1 ⟨h.1, ?_⟩
      replace h := h.2
      refine wp_icmpge (tgt := 71) dX11_text_64 (by decide) ⟨fun q => ?_, fun q => ?_⟩
      · replace h := h.1 q
        refine wp_iconst (v := nI 0) dX11_text_71 rfl ?_
        refine wp_put dX11_text_72 lp_X11_141 hR_0 rfl ⟨⟨rfl, rfl⟩, ?_⟩
        refine wp_nm (fun σ20 e21 => ?_)
        replace h := h σ20 e21
        refine wp_aload_n (i := 0) dX11_text_75 rfl rfl ?_
        refine wp_getR (t := 1) dX11_text_76 lf_X11_9 hR_0 rfl ?_
        refine wp_bipush (v := nI 8) dX11_text_79 (by decide) ?_
        refine wp_iconst (v := nI 0) dX11_text_81 rfl ?_
        refine wp_iast dX11_text_82 hR_1 ⟨h.1, ?_⟩
        refine wp_nm (fun σ22 e23 => ?_)
        replace h := h.2 σ22 e23
        refine wp_aload_n (i := 0) dX11_text_83 rfl rfl ?_
        refine wp_getI dX11_text_84 lf_X11_141 hR_0 rfl ?_
        refine wp_ifeq (tgt := 98) dX11_text_87 (by decide) ⟨fun q => ?_, fun q => ?_⟩
        · replace h := h.1 q
          refine wp_sipush (v := nI 310) dX11_text_98 (by decide) ?_
          refine wp_bipush (v := nI 121) dX11_text_101 (by decide) ?_
          refine wp_iload_n (i := 1) dX11_text_103 rfl rfl ?_
          refine wp_imul dX11_text_104 ?_
          refine wp_iadd dX11_text_105 ?_
          refine wp_istore_n (i := 2) (Lo' := [some (.ref 0), some (.int x1), some (.int ((nI 310) + ((nI 121) * x1))), none]) dX11_text_106 rfl (by decide) rfl rfl ?_
          refine wp_aload_n (i := 0) dX11_text_107 rfl rfl ?_
          refine wp_getR (t := 1) dX11_text_108 lf_X11_9 hR_0 rfl ?_
          refine wp_iload_n (i := 2) dX11_text_111 rfl rfl ?_
          refine wp_aload_n (i := 0) dX11_text_112 rfl rfl ?_
          refine wp_getI dX11_text_113 lf_X11_131 hR_0 rfl ?_
          refine wp_iast dX11_text_116 hR_1 ⟨h.1, ?_⟩
          refine wp_nm (fun σ24 e25 => ?_)
          replace h := h.2 σ24 e25
          refine wp_iconst (v := nI 0) dX11_text_117 rfl ?_
          refine wp_istore_n (i := 3) (Lo' := [some (.ref 0), some (.int x1), some (.int ((nI 310) + ((nI 121) * x1))), some (.int (nI 0))]) dX11_text_118 rfl (by decide) rfl rfl ?_
          exact wp_mask [true, false, true, true] h
        · replace h := h.2 q
          refine wp_bipush (v := (-10 : Int32)) dX11_text_90 (by decide) ?_
          refine wp_aload_n (i := 0) dX11_text_92 rfl rfl ?_
          refine wp_getI dX11_text_93 lf_X11_127 hR_0 rfl ?_
          refine wp_isub dX11_text_96 ?_
          exact wp_ireturn dX11_text_97 rfl ⟨_, rfl, h⟩
      · replace h := h.2 q
        refine wp_iconst (v := nI 1) dX11_text_67 rfl ?_
        refine wp_goto (tgt := 72) dX11_text_68 (by decide) ?_
        refine wp_put dX11_text_72 lp_X11_141 hR_0 rfl ⟨⟨rfl, rfl⟩, ?_⟩
        refine wp_nm (fun σ26 e27 => ?_)
        replace h := h σ26 e27
        refine wp_aload_n (i := 0) dX11_text_75 rfl rfl ?_
        refine wp_getR (t := 1) dX11_text_76 lf_X11_9 hR_0 rfl ?_
        refine wp_bipush (v := nI 8) dX11_text_79 (by decide) ?_
        refine wp_iconst (v := nI 0) dX11_text_81 rfl ?_
        refine wp_iast dX11_text_82 hR_1 ⟨h.1, ?_⟩
        refine wp_nm (fun σ28 e29 => ?_)
        replace h := h.2 σ28 e29
        refine wp_aload_n (i := 0) dX11_text_83 rfl rfl ?_
        refine wp_getI dX11_text_84 lf_X11_141 hR_0 rfl ?_
        refine wp_ifeq (tgt := 98) dX11_text_87 (by decide) ⟨fun q => ?_, fun q => ?_⟩
        · replace h := h.1 q
          refine wp_sipush (v := nI 310) dX11_text_98 (by decide) ?_
          refine wp_bipush (v := nI 121) dX11_text_101 (by decide) ?_
          refine wp_iload_n (i := 1) dX11_text_103 rfl rfl ?_
          refine wp_imul dX11_text_104 ?_
          refine wp_iadd dX11_text_105 ?_
          refine wp_istore_n (i := 2) (Lo' := [some (.ref 0), some (.int x1), some (.int ((nI 310) + ((nI 121) * x1))), none]) dX11_text_106 rfl (by decide) rfl rfl ?_
          refine wp_aload_n (i := 0) dX11_text_107 rfl rfl ?_
          refine wp_getR (t := 1) dX11_text_108 lf_X11_9 hR_0 rfl ?_
          refine wp_iload_n (i := 2) dX11_text_111 rfl rfl ?_
          refine wp_aload_n (i := 0) dX11_text_112 rfl rfl ?_
          refine wp_getI dX11_text_113 lf_X11_131 hR_0 rfl ?_
          refine wp_iast dX11_text_116 hR_1 ⟨h.1, ?_⟩
          refine wp_nm (fun σ30 e31 => ?_)
          replace h := h.2 σ30 e31
          refine wp_iconst (v := nI 0) dX11_text_117 rfl ?_
          refine wp_istore_n (i := 3) (Lo' := [some (.ref 0), some (.int x1), some (.int ((nI 310) + ((nI 121) * x1))), some (.int (nI 0))]) dX11_text_118 rfl (by decide) rfl rfl ?_
          exact wp_mask [true, false, true, true] h
        · replace h := h.2 q
          refine wp_bipush (v := (-10 : Int32)) dX11_text_90 (by decide) ?_
          refine wp_aload_n (i := 0) dX11_text_92 rfl rfl ?_
          refine wp_getI dX11_text_93 lf_X11_127 hR_0 rfl ?_
          refine wp_isub dX11_text_96 ?_
          exact wp_ireturn dX11_text_97 rfl ⟨_, rfl, h⟩
  · replace h := h.2 q
    refine wp_aload_n (i := 0) dX11_text_9 rfl rfl ?_
    refine wp_ldc lc_X11_85 dX11_text_10 ?_
    refine wp_callVI (vs := [.int (-1000000001 : Int32)]) (rest := []) dX11_text_12 mV_X11_error lm_X11_86 hR_0 rfl rfl rfl (Nat.le_of_ble_eq_true rfl) (CallI.mono h (fun y33 σ32 h => ?_))
    exact wp_ireturn dX11_text_15 rfl ⟨_, rfl, h⟩
set_option maxRecDepth 20000 in
set_option maxHeartbeats 2000000 in
theorem vc_Md_untell {E : KE} {d : Nat} {x1 : Int32} {σ : Sg} {K : Int32 → Sg → Prop} (h : CallI E shR d mX11_in [.int x1, .int (nI 0), .int (nI 1)] σ (fun y2 σ1 => (¬ y2 = 0 → CallI E shR d mX11_becomes [.ref 0, .int ((nI 310) + ((nI 121) * x1)), .int (nI 0)] σ1 (fun y4 σ3 => (y4 ≤ 0 → K (nI 0) σ3) ∧ (¬ y4 ≤ 0 → K (nI 1) σ3))) ∧ (y2 = 0 → CallI E shR d mX11_error [.ref 0, .int (-1000000001 : Int32)] σ1 (fun y6 σ5 => K y6 σ5)))) : CallI E shR (d + 1) mX11_untell [.ref 0, .int x1] σ K := by
  refine wp_enter (Lo := [some (.ref 0), some (.int x1)]) mp_X11_untell (Nat.le_of_ble_eq_true rfl) rfl ?_
  refine wp_iload_n (i := 1) dX11_untell_0 rfl rfl ?_
  refine wp_iconst (v := nI 0) dX11_untell_1 rfl ?_
  refine wp_iconst (v := nI 1) dX11_untell_2 rfl ?_
  refine wp_callSI (vs := [.int x1, .int (nI 0), .int (nI 1)]) (rest := []) dX11_untell_3 mS_X11_in lm_X11_53 rfl rfl (Nat.le_of_ble_eq_true rfl) (CallI.mono h (fun y2 σ1 h => ?_))
  refine wp_ifne (tgt := 16) dX11_untell_6 (by decide) ⟨fun q => ?_, fun q => ?_⟩
  · replace h := h.1 q
    refine wp_aload_n (i := 0) dX11_untell_16 rfl rfl ?_
    refine wp_sipush (v := nI 310) dX11_untell_17 (by decide) ?_
    refine wp_bipush (v := nI 121) dX11_untell_20 (by decide) ?_
    refine wp_iload_n (i := 1) dX11_untell_22 rfl rfl ?_
    refine wp_imul dX11_untell_23 ?_
    refine wp_iadd dX11_untell_24 ?_
    refine wp_iconst (v := nI 0) dX11_untell_25 rfl ?_
    refine wp_callVI (vs := [.int ((nI 310) + ((nI 121) * x1)), .int (nI 0)]) (rest := []) dX11_untell_26 mV_X11_becomes lm_X11_95 hR_0 rfl rfl rfl (Nat.le_of_ble_eq_true rfl) (CallI.mono h (fun y4 σ3 h => ?_))
    refine wp_ifle (tgt := 36) dX11_untell_29 (by decide) ⟨fun q => ?_, fun q => ?_⟩
    · replace h := h.1 q
      refine wp_iconst (v := nI 0) dX11_untell_36 rfl ?_
      exact wp_ireturn dX11_untell_37 rfl ⟨_, rfl, h⟩
    · replace h := h.2 q
      refine wp_iconst (v := nI 1) dX11_untell_32 rfl ?_
      refine wp_goto (tgt := 37) dX11_untell_33 (by decide) ?_
      exact wp_ireturn dX11_untell_37 rfl ⟨_, rfl, h⟩
  · replace h := h.2 q
    refine wp_aload_n (i := 0) dX11_untell_9 rfl rfl ?_
    refine wp_ldc lc_X11_85 dX11_untell_10 ?_
    refine wp_callVI (vs := [.int (-1000000001 : Int32)]) (rest := []) dX11_untell_12 mV_X11_error lm_X11_86 hR_0 rfl rfl rfl (Nat.le_of_ble_eq_true rfl) (CallI.mono h (fun y6 σ5 h => ?_))
    exact wp_ireturn dX11_untell_15 rfl ⟨_, rfl, h⟩
set_option maxRecDepth 20000 in
set_option maxHeartbeats 2000000 in
theorem vc_Md_law {E : KE} {d : Nat} {x1 : Int32} {x2 : Int32} {x3 : Int32} {x4 : Int32} {σ : Sg} {K : Int32 → Sg → Prop} (h : CallI E shR d mX11_in [.int x1, .int (nI 0), .int (nI 1)] σ (fun y2 σ1 => (y2 = 0 → CallI E shR d mX11_error [.ref 0, .int (-1000000001 : Int32)] σ1 (fun y4 σ3 => K y4 σ3)) ∧ (¬ y2 = 0 → CallI E shR d mX11_gives [.ref 0, .int x1, .int x2, .int x3, .int x4] σ1 (fun y6 σ5 => K y6 σ5)))) : CallI E shR (d + 1) mX11_law [.ref 0, .int x1, .int x2, .int x3, .int x4] σ K := by
  refine wp_enter (Lo := [some (.ref 0), some (.int x1), some (.int x2), some (.int x3), some (.int x4)]) mp_X11_law (Nat.le_of_ble_eq_true rfl) rfl ?_
  refine wp_iload_n (i := 1) dX11_law_0 rfl rfl ?_
  refine wp_iconst (v := nI 0) dX11_law_1 rfl ?_
  refine wp_iconst (v := nI 1) dX11_law_2 rfl ?_
  refine wp_callSI (vs := [.int x1, .int (nI 0), .int (nI 1)]) (rest := []) dX11_law_3 mS_X11_in lm_X11_53 rfl rfl (Nat.le_of_ble_eq_true rfl) (CallI.mono h (fun y2 σ1 h => ?_))
  refine wp_ifeq (tgt := 21) dX11_law_6 (by decide) ⟨fun q => ?_, fun q => ?_⟩
  · replace h := h.1 q
    refine wp_aload_n (i := 0) dX11_law_21 rfl rfl ?_
    refine wp_ldc lc_X11_85 dX11_law_22 ?_
    refine wp_callVI (vs := [.int (-1000000001 : Int32)]) (rest := []) dX11_law_24 mV_X11_error lm_X11_86 hR_0 rfl rfl rfl (Nat.le_of_ble_eq_true rfl) (CallI.mono h (fun y4 σ3 h => ?_))
    exact wp_ireturn dX11_law_27 rfl ⟨_, rfl, h⟩
  · replace h := h.2 q
    refine wp_aload_n (i := 0) dX11_law_9 rfl rfl ?_
    refine wp_iload_n (i := 1) dX11_law_10 rfl rfl ?_
    refine wp_iload_n (i := 2) dX11_law_11 rfl rfl ?_
    refine wp_iload_n (i := 3) dX11_law_12 rfl rfl ?_
    refine wp_iload (i := 4) dX11_law_13 rfl ?_
    refine wp_callVI (vs := [.int x1, .int x2, .int x3, .int x4]) (rest := []) dX11_law_15 mV_X11_gives lm_X11_102 hR_0 rfl rfl rfl (Nat.le_of_ble_eq_true rfl) (CallI.mono h (fun y6 σ5 h => ?_))
    refine wp_goto (tgt := 27) dX11_law_18 (by decide) ?_
    exact wp_ireturn dX11_law_27 rfl ⟨_, rfl, h⟩
set_option maxRecDepth 20000 in
set_option maxHeartbeats 2000000 in
theorem vb_Md_manyUp_4 {E : KE} {d : Nat} {x1 : Int32} {x2 : Int32} {x3 : Int32} {σ : Sg} {K : Int32 → Sg → Prop} (h : vp_in (nI 2) 552 ∧ (((σ 1 (nI 2).toNatClampNeg) ≤ x3 → K x2 σ) ∧ (¬ (σ 1 (nI 2).toNatClampNeg) ≤ x3 → CallI E shR d mX11_isUp [.ref 0, .int x3, .int x1] σ (fun y2 σ1 => (y2 = 0 → WP E shR mX11_manyUp (d + 1) 4 [some (.ref 0), some (.int x1), some (.int (x2 + (nI 0))), some (.int (x3 + nI 1))] [] σ1 (k_qi K)) ∧ (¬ y2 = 0 → WP E shR mX11_manyUp (d + 1) 4 [some (.ref 0), some (.int x1), some (.int (x2 + (nI 1))), some (.int (x3 + nI 1))] [] σ1 (k_qi K)))))) : WP E shR mX11_manyUp (d + 1) 4 [some (.ref 0), some (.int x1), some (.int x2), some (.int x3)] [] σ (k_qi K) := by
  refine wp_iload_n (i := 3) dX11_manyUp_4 rfl rfl ?_
  refine wp_aload_n (i := 0) dX11_manyUp_5 rfl rfl ?_
  refine wp_getR (t := 1) dX11_manyUp_6 lf_X11_9 hR_0 rfl ?_
  refine wp_iconst (v := nI 2) dX11_manyUp_9 rfl ?_
  refine wp_iald dX11_manyUp_10 hR_1 ⟨h.1, ?_⟩
  replace h := h.2
  refine wp_icmpge (tgt := 37) dX11_manyUp_11 (by decide) ⟨fun q => ?_, fun q => ?_⟩
  · replace h := h.1 q
    refine wp_iload_n (i := 2) dX11_manyUp_37 rfl rfl ?_
    exact wp_ireturn dX11_manyUp_38 rfl ⟨_, rfl, h⟩
  · replace h := h.2 q
    refine wp_iload_n (i := 2) dX11_manyUp_14 rfl rfl ?_
    refine wp_aload_n (i := 0) dX11_manyUp_15 rfl rfl ?_
    refine wp_iload_n (i := 3) dX11_manyUp_16 rfl rfl ?_
    refine wp_iload_n (i := 1) dX11_manyUp_17 rfl rfl ?_
    refine wp_callVI (vs := [.int x3, .int x1]) (rest := [.int x2]) dX11_manyUp_18 mV_X11_isUp lm_X11_72 hR_0 rfl rfl rfl (Nat.le_of_ble_eq_true rfl) (CallI.mono h (fun y2 σ1 h => ?_))
    refine wp_ifeq (tgt := 28) dX11_manyUp_21 (by decide) ⟨fun q => ?_, fun q => ?_⟩
    · replace h := h.1 q
      refine wp_iconst (v := nI 0) dX11_manyUp_28 rfl ?_
      refine wp_iadd dX11_manyUp_29 ?_
      refine wp_istore_n (i := 2) (Lo' := [some (.ref 0), some (.int x1), some (.int (x2 + (nI 0))), some (.int x3)]) dX11_manyUp_30 rfl (by decide) rfl rfl ?_
      refine wp_iinc (i := 3) (v := x3 + nI 1) (Lo' := [some (.ref 0), some (.int x1), some (.int (x2 + (nI 0))), some (.int (x3 + nI 1))]) dX11_manyUp_31 rfl (by rfl) (by decide) rfl rfl ?_
      refine wp_goto (tgt := 4) dX11_manyUp_34 (by decide) ?_
      exact wp_mask [true, true, true, true] h
    · replace h := h.2 q
      refine wp_iconst (v := nI 1) dX11_manyUp_24 rfl ?_
      refine wp_goto (tgt := 29) dX11_manyUp_25 (by decide) ?_
      refine wp_iadd dX11_manyUp_29 ?_
      refine wp_istore_n (i := 2) (Lo' := [some (.ref 0), some (.int x1), some (.int (x2 + (nI 1))), some (.int x3)]) dX11_manyUp_30 rfl (by decide) rfl rfl ?_
      refine wp_iinc (i := 3) (v := x3 + nI 1) (Lo' := [some (.ref 0), some (.int x1), some (.int (x2 + (nI 1))), some (.int (x3 + nI 1))]) dX11_manyUp_31 rfl (by rfl) (by decide) rfl rfl ?_
      refine wp_goto (tgt := 4) dX11_manyUp_34 (by decide) ?_
      exact wp_mask [true, true, true, true] h
set_option maxRecDepth 20000 in
set_option maxHeartbeats 2000000 in
theorem vc_Md_manyUp {E : KE} {d : Nat} {x1 : Int32} {σ : Sg} {K : Int32 → Sg → Prop} (h : WP E shR mX11_manyUp (d + 1) 4 [some (.ref 0), some (.int x1), some (.int (nI 0)), some (.int (nI 0))] [] σ (k_qi K)) : CallI E shR (d + 1) mX11_manyUp [.ref 0, .int x1] σ K := by
  refine wp_enter (Lo := [some (.ref 0), some (.int x1), none, none]) mp_X11_manyUp (Nat.le_of_ble_eq_true rfl) rfl ?_
  refine wp_iconst (v := nI 0) dX11_manyUp_0 rfl ?_
  refine wp_istore_n (i := 2) (Lo' := [some (.ref 0), some (.int x1), some (.int (nI 0)), none]) dX11_manyUp_1 rfl (by decide) rfl rfl ?_
  refine wp_iconst (v := nI 0) dX11_manyUp_2 rfl ?_
  refine wp_istore_n (i := 3) (Lo' := [some (.ref 0), some (.int x1), some (.int (nI 0)), some (.int (nI 0))]) dX11_manyUp_3 rfl (by decide) rfl rfl ?_
  exact wp_mask [true, true, true, true] h
set_option maxRecDepth 20000 in
set_option maxHeartbeats 2000000 in
theorem vc_Md_counts {E : KE} {d : Nat} {x1 : Int32} {σ : Sg} {K : Sg → Prop} (h : vp_in x1 552 ∧ (CallI E shR d mX11_held [.int ((σ 1 x1.toNatClampNeg) + (nI 1)), .int (nI 0), .int (nI 9999)] σ (fun y2 σ1 => vp_in x1 552 ∧ (∀ σ3, σ3 = k_put σ1 1 (upd (σ1 1) x1.toNatClampNeg y2) → K σ3)))) : CallN E shR (d + 1) mX11_counts [.ref 0, .int x1] σ K := by
  refine wp_enter (Lo := [some (.ref 0), some (.int x1)]) mp_X11_counts (Nat.le_of_ble_eq_true rfl) rfl ?_
  refine wp_aload_n (i := 0) dX11_counts_0 rfl rfl ?_
  refine wp_getR (t := 1) dX11_counts_1 lf_X11_9 hR_0 rfl ?_
  refine wp_iload_n (i := 1) dX11_counts_4 rfl rfl ?_
  refine wp_aload_n (i := 0) dX11_counts_5 rfl rfl ?_
  refine wp_getR (t := 1) dX11_counts_6 lf_X11_9 hR_0 rfl ?_
  refine wp_iload_n (i := 1) dX11_counts_9 rfl rfl ?_
  refine wp_iald dX11_counts_10 hR_1 ⟨h.1, ?_⟩
  replace h := h.2
  refine wp_iconst (v := nI 1) dX11_counts_11 rfl ?_
  refine wp_iadd dX11_counts_12 ?_
  refine wp_iconst (v := nI 0) dX11_counts_13 rfl ?_
  refine wp_sipush (v := nI 9999) dX11_counts_14 (by decide) ?_
  refine wp_callSI (vs := [.int ((σ 1 x1.toNatClampNeg) + (nI 1)), .int (nI 0), .int (nI 9999)]) (rest := [.int x1, .ref 1]) dX11_counts_17 mS_X11_held lm_X11_61 rfl rfl (Nat.le_of_ble_eq_true rfl) (CallI.mono h (fun y2 σ1 h => ?_))
  refine wp_iast dX11_counts_20 hR_1 ⟨h.1, ?_⟩
  refine wp_nm (fun σ3 e4 => ?_)
  replace h := h.2 σ3 e4
  exact wp_return dX11_counts_21 rfl ⟨rfl, h⟩
set_option maxRecDepth 20000 in
set_option maxHeartbeats 2000000 in
theorem vc_Md_lives {E : KE} {d : Nat} {x1 : Int32} {x2 : Int32} {σ : Sg} {K : Sg → Prop} (h : CallI E shR d mX11_of [.ref 0, .int x1, .int (nI 2)] σ (fun y2 σ1 => vp_in (nI 0) 552 ∧ (CallI E shR d mX11_of [.ref 0, .int x1, .int (nI 3)] σ1 (fun y4 σ3 => CallI E shR d mX11_gives [.ref 0, .int (nI 1), .int y2, .int (σ1 1 (nI 0).toNatClampNeg), .int y4] σ3 (fun y6 σ5 => CallI E shR d mX11_of [.ref 0, .int x1, .int (nI 2)] σ5 (fun y8 σ7 => CallI E shR d mX11_livesOf [.ref 0, .int x1, .int x2] σ7 (fun y10 σ9 => CallI E shR d mX11_held [.int (y8 + y10), .int (nI 0), .int (nI 9999)] σ9 (fun y12 σ11 => CallN E shR d mX11_lay [.ref 0, .int x1, .int (nI 2), .int y12] σ11 (fun σ13 => CallI E shR d mX11_of [.ref 0, .int x1, .int (nI 3)] σ13 (fun y15 σ14 => CallI E shR d mX11_held [.int (y15 - y6), .int (nI 0), .int (nI 9999)] σ14 (fun y17 σ16 => CallN E shR d mX11_lay [.ref 0, .int x1, .int (nI 3), .int y17] σ16 (fun σ18 => CallI E shR d mX11_of [.ref 0, .int x1, .int ((nI 4) + x2)] σ18 (fun y20 σ19 => (y20 ≤ (nI 1) → K σ19) ∧ (¬ y20 ≤ (nI 1) → CallN E shR d mX11_counts [.ref 0, .int (nI 4)] σ19 (fun σ21 => K σ21))))))))))))))) : CallN E shR (d + 1) mX11_lives [.ref 0, .int x1, .int x2] σ K := by
  refine wp_enter (Lo := [some (.ref 0), some (.int x1), some (.int x2), none]) mp_X11_lives (Nat.le_of_ble_eq_true rfl) rfl ?_
  refine wp_aload_n (i := 0) dX11_lives_0 rfl rfl ?_
  refine wp_iconst (v := nI 1) dX11_lives_1 rfl ?_
  refine wp_aload_n (i := 0) dX11_lives_2 rfl rfl ?_
  refine wp_iload_n (i := 1) dX11_lives_3 rfl rfl ?_
  refine wp_iconst (v := nI 2) dX11_lives_4 rfl ?_
  refine wp_callVI (vs := [.int x1, .int (nI 2)]) (rest := [.int (nI 1), .ref 0]) dX11_lives_5 mV_X11_of lm_X11_65 hR_0 rfl rfl rfl (Nat.le_of_ble_eq_true rfl) (CallI.mono h (fun y2 σ1 h => ?_))
  refine wp_aload_n (i := 0) dX11_lives_8 rfl rfl ?_
  refine wp_getR (t := 1) dX11_lives_9 lf_X11_9 hR_0 rfl ?_
  refine wp_iconst (v := nI 0) dX11_lives_12 rfl ?_
  refine wp_iald dX11_lives_13 hR_1 ⟨h.1, ?_⟩
  replace h := h.2
  refine wp_aload_n (i := 0) dX11_lives_14 rfl rfl ?_
  refine wp_iload_n (i := 1) dX11_lives_15 rfl rfl ?_
  refine wp_iconst (v := nI 3) dX11_lives_16 rfl ?_
  refine wp_callVI (vs := [.int x1, .int (nI 3)]) (rest := [.int (σ1 1 (nI 0).toNatClampNeg), .int y2, .int (nI 1), .ref 0]) dX11_lives_17 mV_X11_of lm_X11_65 hR_0 rfl rfl rfl (Nat.le_of_ble_eq_true rfl) (CallI.mono h (fun y4 σ3 h => ?_))
  refine wp_callVI (vs := [.int (nI 1), .int y2, .int (σ1 1 (nI 0).toNatClampNeg), .int y4]) (rest := []) dX11_lives_20 mV_X11_gives lm_X11_102 hR_0 rfl rfl rfl (Nat.le_of_ble_eq_true rfl) (CallI.mono h (fun y6 σ5 h => ?_))
  refine wp_istore_n (i := 3) (Lo' := [some (.ref 0), some (.int x1), some (.int x2), some (.int y6)]) dX11_lives_23 rfl (by decide) rfl rfl ?_
  refine wp_aload_n (i := 0) dX11_lives_24 rfl rfl ?_
  refine wp_iload_n (i := 1) dX11_lives_25 rfl rfl ?_
  refine wp_iconst (v := nI 2) dX11_lives_26 rfl ?_
  refine wp_aload_n (i := 0) dX11_lives_27 rfl rfl ?_
  refine wp_iload_n (i := 1) dX11_lives_28 rfl rfl ?_
  refine wp_iconst (v := nI 2) dX11_lives_29 rfl ?_
  refine wp_callVI (vs := [.int x1, .int (nI 2)]) (rest := [.int (nI 2), .int x1, .ref 0]) dX11_lives_30 mV_X11_of lm_X11_65 hR_0 rfl rfl rfl (Nat.le_of_ble_eq_true rfl) (CallI.mono h (fun y8 σ7 h => ?_))
  refine wp_aload_n (i := 0) dX11_lives_33 rfl rfl ?_
  refine wp_iload_n (i := 1) dX11_lives_34 rfl rfl ?_
  refine wp_iload_n (i := 2) dX11_lives_35 rfl rfl ?_
  refine wp_callVI (vs := [.int x1, .int x2]) (rest := [.int y8, .int (nI 2), .int x1, .ref 0]) dX11_lives_36 mV_X11_livesOf lm_X11_69 hR_0 rfl rfl rfl (Nat.le_of_ble_eq_true rfl) (CallI.mono h (fun y10 σ9 h => ?_))
  refine wp_iadd dX11_lives_39 ?_
  refine wp_iconst (v := nI 0) dX11_lives_40 rfl ?_
  refine wp_sipush (v := nI 9999) dX11_lives_41 (by decide) ?_
  refine wp_callSI (vs := [.int (y8 + y10), .int (nI 0), .int (nI 9999)]) (rest := [.int (nI 2), .int x1, .ref 0]) dX11_lives_44 mS_X11_held lm_X11_61 rfl rfl (Nat.le_of_ble_eq_true rfl) (CallI.mono h (fun y12 σ11 h => ?_))
  refine wp_callVN (vs := [.int x1, .int (nI 2), .int y12]) (rest := []) dX11_lives_47 mV_X11_lay lm_X11_91 hR_0 rfl rfl rfl (Nat.le_of_ble_eq_true rfl) (CallN.mono h (fun σ13 h => ?_))
  refine wp_aload_n (i := 0) dX11_lives_50 rfl rfl ?_
  refine wp_iload_n (i := 1) dX11_lives_51 rfl rfl ?_
  refine wp_iconst (v := nI 3) dX11_lives_52 rfl ?_
  refine wp_aload_n (i := 0) dX11_lives_53 rfl rfl ?_
  refine wp_iload_n (i := 1) dX11_lives_54 rfl rfl ?_
  refine wp_iconst (v := nI 3) dX11_lives_55 rfl ?_
  refine wp_callVI (vs := [.int x1, .int (nI 3)]) (rest := [.int (nI 3), .int x1, .ref 0]) dX11_lives_56 mV_X11_of lm_X11_65 hR_0 rfl rfl rfl (Nat.le_of_ble_eq_true rfl) (CallI.mono h (fun y15 σ14 h => ?_))
  refine wp_iload_n (i := 3) dX11_lives_59 rfl rfl ?_
  refine wp_isub dX11_lives_60 ?_
  refine wp_iconst (v := nI 0) dX11_lives_61 rfl ?_
  refine wp_sipush (v := nI 9999) dX11_lives_62 (by decide) ?_
  refine wp_callSI (vs := [.int (y15 - y6), .int (nI 0), .int (nI 9999)]) (rest := [.int (nI 3), .int x1, .ref 0]) dX11_lives_65 mS_X11_held lm_X11_61 rfl rfl (Nat.le_of_ble_eq_true rfl) (CallI.mono h (fun y17 σ16 h => ?_))
  refine wp_callVN (vs := [.int x1, .int (nI 3), .int y17]) (rest := []) dX11_lives_68 mV_X11_lay lm_X11_91 hR_0 rfl rfl rfl (Nat.le_of_ble_eq_true rfl) (CallN.mono h (fun σ18 h => ?_))
  refine wp_aload_n (i := 0) dX11_lives_71 rfl rfl ?_
  refine wp_iload_n (i := 1) dX11_lives_72 rfl rfl ?_
  refine wp_iconst (v := nI 4) dX11_lives_73 rfl ?_
  refine wp_iload_n (i := 2) dX11_lives_74 rfl rfl ?_
  refine wp_iadd dX11_lives_75 ?_
  refine wp_callVI (vs := [.int x1, .int ((nI 4) + x2)]) (rest := []) dX11_lives_76 mV_X11_of lm_X11_65 hR_0 rfl rfl rfl (Nat.le_of_ble_eq_true rfl) (CallI.mono h (fun y20 σ19 h => ?_))
  refine wp_iconst (v := nI 1) dX11_lives_79 rfl ?_
  refine wp_icmple (tgt := 88) dX11_lives_80 (by decide) ⟨fun q => ?_, fun q => ?_⟩
  · replace h := h.1 q
    exact wp_return dX11_lives_88 rfl ⟨rfl, h⟩
  · replace h := h.2 q
    refine wp_aload_n (i := 0) dX11_lives_83 rfl rfl ?_
    refine wp_iconst (v := nI 4) dX11_lives_84 rfl ?_
    refine wp_callVN (vs := [.int (nI 4)]) (rest := []) dX11_lives_85 mV_X11_counts lm_X11_186 hR_0 rfl rfl rfl (Nat.le_of_ble_eq_true rfl) (CallN.mono h (fun σ21 h => ?_))
    exact wp_return dX11_lives_88 rfl ⟨rfl, h⟩
set_option maxRecDepth 20000 in
set_option maxHeartbeats 2000000 in
theorem vb_Md_goes_51 {E : KE} {d : Nat} {x1 : Int32} {x2 : Int32} {x3 : Int32} {σ : Sg} {K : Int32 → Sg → Prop} (h : vp_in (nI 3) 552 ∧ (((σ 1 (nI 3).toNatClampNeg) ≤ x3 → (¬ x2 = 0 → vp_in (nI 0) 552 ∧ (vp_in (nI 0) 552 ∧ (∀ σ1, σ1 = k_put σ 1 (upd (σ 1) (nI 0).toNatClampNeg ((σ 1 (nI 0).toNatClampNeg) + (nI 1))) → K x2 σ1))) ∧ (x2 = 0 → CallN E shR d mX11_counts [.ref 0, .int (nI 7)] σ (fun σ3 => vp_in (nI 0) 552 ∧ (vp_in (nI 0) 552 ∧ (∀ σ4, σ4 = k_put σ3 1 (upd (σ3 1) (nI 0).toNatClampNeg ((σ3 1 (nI 0).toNatClampNeg) + (nI 1))) → K x2 σ4))))) ∧ (¬ (σ 1 (nI 3).toNatClampNeg) ≤ x3 → CallI E shR d mX11_said [.ref 0, .int x3, .int (nI 2)] σ (fun y7 σ6 => (¬ y7 = x1 → WP E shR mX11_goes (d + 1) 51 [some (.ref 0), some (.int x1), some (.int x2), some (.int (x3 + nI 1))] [] σ6 (k_qi K)) ∧ (y7 = x1 → CallI E shR d mX11_isKept [.ref 0, .int x3] σ6 (fun y9 σ8 => (y9 = 0 → CallN E shR d mX11_counts [.ref 0, .int (nI 6)] σ8 (fun σ10 => WP E shR mX11_goes (d + 1) 51 [some (.ref 0), some (.int x1), some (.int x2), some (.int (x3 + nI 1))] [] σ10 (k_qi K))) ∧ (¬ y9 = 0 → CallN E shR d mX11_counts [.ref 0, .int (nI 5)] σ8 (fun σ11 => WP E shR mX11_goes (d + 1) 51 [some (.ref 0), some (.int x1), some (.int x2), some (.int (x3 + nI 1))] [] σ11 (k_qi K))))))))) : WP E shR mX11_goes (d + 1) 51 [some (.ref 0), some (.int x1), some (.int x2), some (.int x3)] [] σ (k_qi K) := by
  refine wp_iload_n (i := 3) dX11_goes_51 rfl rfl ?_
  refine wp_aload_n (i := 0) dX11_goes_52 rfl rfl ?_
  refine wp_getR (t := 1) dX11_goes_53 lf_X11_9 hR_0 rfl ?_
  refine wp_iconst (v := nI 3) dX11_goes_56 rfl ?_
  refine wp_iald dX11_goes_57 hR_1 ⟨h.1, ?_⟩
  replace h := h.2
  refine wp_icmpge (tgt := 95) dX11_goes_58 (by decide) ⟨fun q => ?_, fun q => ?_⟩
  · replace h := h.1 q
    refine wp_iload_n (i := 2) dX11_goes_95 rfl rfl ?_
    refine wp_ifne (tgt := 105) dX11_goes_96 (by decide) ⟨fun q => ?_, fun q => ?_⟩
    · replace h := h.1 q
      refine wp_aload_n (i := 0) dX11_goes_105 rfl rfl ?_
      refine wp_getR (t := 1) dX11_goes_106 lf_X11_9 hR_0 rfl ?_
      refine wp_iconst (v := nI 0) dX11_goes_109 rfl ?_
      refine wp_dup2 dX11_goes_110 rfl rfl ?_
      refine wp_iald dX11_goes_111 hR_1 ⟨h.1, ?_⟩
      replace h := h.2
      refine wp_iconst (v := nI 1) dX11_goes_112 rfl ?_
      refine wp_iadd dX11_goes_113 ?_
      refine wp_iast dX11_goes_114 hR_1 ⟨h.1, ?_⟩
      refine wp_nm (fun σ1 e2 => ?_)
      replace h := h.2 σ1 e2
      refine wp_iload_n (i := 2) dX11_goes_115 rfl rfl ?_
      exact wp_ireturn dX11_goes_116 rfl ⟨_, rfl, h⟩
    · replace h := h.2 q
      refine wp_aload_n (i := 0) dX11_goes_99 rfl rfl ?_
      refine wp_bipush (v := nI 7) dX11_goes_100 (by decide) ?_
      refine wp_callVN (vs := [.int (nI 7)]) (rest := []) dX11_goes_102 mV_X11_counts lm_X11_186 hR_0 rfl rfl rfl (Nat.le_of_ble_eq_true rfl) (CallN.mono h (fun σ3 h => ?_))
      refine wp_aload_n (i := 0) dX11_goes_105 rfl rfl ?_
      refine wp_getR (t := 1) dX11_goes_106 lf_X11_9 hR_0 rfl ?_
      refine wp_iconst (v := nI 0) dX11_goes_109 rfl ?_
      refine wp_dup2 dX11_goes_110 rfl rfl ?_
      refine wp_iald dX11_goes_111 hR_1 ⟨h.1, ?_⟩
      replace h := h.2
      refine wp_iconst (v := nI 1) dX11_goes_112 rfl ?_
      refine wp_iadd dX11_goes_113 ?_
      refine wp_iast dX11_goes_114 hR_1 ⟨h.1, ?_⟩
      refine wp_nm (fun σ4 e5 => ?_)
      replace h := h.2 σ4 e5
      refine wp_iload_n (i := 2) dX11_goes_115 rfl rfl ?_
      exact wp_ireturn dX11_goes_116 rfl ⟨_, rfl, h⟩
  · replace h := h.2 q
    refine wp_aload_n (i := 0) dX11_goes_61 rfl rfl ?_
    refine wp_iload_n (i := 3) dX11_goes_62 rfl rfl ?_
    refine wp_iconst (v := nI 2) dX11_goes_63 rfl ?_
    refine wp_callVI (vs := [.int x3, .int (nI 2)]) (rest := []) dX11_goes_64 mV_X11_said lm_X11_76 hR_0 rfl rfl rfl (Nat.le_of_ble_eq_true rfl) (CallI.mono h (fun y7 σ6 h => ?_))
    refine wp_iload_n (i := 1) dX11_goes_67 rfl rfl ?_
    refine wp_icmpne (tgt := 89) dX11_goes_68 (by decide) ⟨fun q => ?_, fun q => ?_⟩
    · replace h := h.1 q
      refine wp_iinc (i := 3) (v := x3 + nI 1) (Lo' := [some (.ref 0), some (.int x1), some (.int x2), some (.int (x3 + nI 1))]) dX11_goes_89 rfl (by rfl) (by decide) rfl rfl ?_
      refine wp_goto (tgt := 51) dX11_goes_92 (by decide) ?_
      exact wp_mask [true, true, true, true] h
    · replace h := h.2 q
      refine wp_aload_n (i := 0) dX11_goes_71 rfl rfl ?_
      refine wp_aload_n (i := 0) dX11_goes_72 rfl rfl ?_
      refine wp_iload_n (i := 3) dX11_goes_73 rfl rfl ?_
      refine wp_callVI (vs := [.int x3]) (rest := [.ref 0]) dX11_goes_74 mV_X11_isKept lm_X11_79 hR_0 rfl rfl rfl (Nat.le_of_ble_eq_true rfl) (CallI.mono h (fun y9 σ8 h => ?_))
      refine wp_ifeq (tgt := 84) dX11_goes_77 (by decide) ⟨fun q => ?_, fun q => ?_⟩
      · replace h := h.1 q
        refine wp_bipush (v := nI 6) dX11_goes_84 (by decide) ?_
        refine wp_callVN (vs := [.int (nI 6)]) (rest := []) dX11_goes_86 mV_X11_counts lm_X11_186 hR_0 rfl rfl rfl (Nat.le_of_ble_eq_true rfl) (CallN.mono h (fun σ10 h => ?_))
        refine wp_iinc (i := 3) (v := x3 + nI 1) (Lo' := [some (.ref 0), some (.int x1), some (.int x2), some (.int (x3 + nI 1))]) dX11_goes_89 rfl (by rfl) (by decide) rfl rfl ?_
        refine wp_goto (tgt := 51) dX11_goes_92 (by decide) ?_
        exact wp_mask [true, true, true, true] h
      · replace h := h.2 q
        refine wp_iconst (v := nI 5) dX11_goes_80 rfl ?_
        refine wp_goto (tgt := 86) dX11_goes_81 (by decide) ?_
        refine wp_callVN (vs := [.int (nI 5)]) (rest := []) dX11_goes_86 mV_X11_counts lm_X11_186 hR_0 rfl rfl rfl (Nat.le_of_ble_eq_true rfl) (CallN.mono h (fun σ11 h => ?_))
        refine wp_iinc (i := 3) (v := x3 + nI 1) (Lo' := [some (.ref 0), some (.int x1), some (.int x2), some (.int (x3 + nI 1))]) dX11_goes_89 rfl (by rfl) (by decide) rfl rfl ?_
        refine wp_goto (tgt := 51) dX11_goes_92 (by decide) ?_
        exact wp_mask [true, true, true, true] h
set_option maxRecDepth 20000 in
set_option maxHeartbeats 2000000 in
theorem vb_Md_goes_18 {E : KE} {d : Nat} {x1 : Int32} {x2 : Int32} {x3 : Int32} {σ : Sg} {K : Int32 → Sg → Prop} (h : vp_in (nI 2) 552 ∧ (((σ 1 (nI 2).toNatClampNeg) ≤ x3 → WP E shR mX11_goes (d + 1) 51 [some (.ref 0), some (.int x1), some (.int x2), some (.int (nI 0))] [] σ (k_qi K)) ∧ (¬ (σ 1 (nI 2).toNatClampNeg) ≤ x3 → CallI E shR d mX11_isUp [.ref 0, .int x3, .int x1] σ (fun y2 σ1 => (y2 = 0 → WP E shR mX11_goes (d + 1) 18 [some (.ref 0), some (.int x1), some (.int x2), some (.int (x3 + nI 1))] [] σ1 (k_qi K)) ∧ (¬ y2 = 0 → CallN E shR d mX11_lives [.ref 0, .int x3, .int x1] σ1 (fun σ3 => WP E shR mX11_goes (d + 1) 18 [some (.ref 0), some (.int x1), some (.int x2), some (.int (x3 + nI 1))] [] σ3 (k_qi K))))))) : WP E shR mX11_goes (d + 1) 18 [some (.ref 0), some (.int x1), some (.int x2), some (.int x3)] [] σ (k_qi K) := by
  refine wp_iload_n (i := 3) dX11_goes_18 rfl rfl ?_
  refine wp_aload_n (i := 0) dX11_goes_19 rfl rfl ?_
  refine wp_getR (t := 1) dX11_goes_20 lf_X11_9 hR_0 rfl ?_
  refine wp_iconst (v := nI 2) dX11_goes_23 rfl ?_
  refine wp_iald dX11_goes_24 hR_1 ⟨h.1, ?_⟩
  replace h := h.2
  refine wp_icmpge (tgt := 49) dX11_goes_25 (by decide) ⟨fun q => ?_, fun q => ?_⟩
  · replace h := h.1 q
    refine wp_iconst (v := nI 0) dX11_goes_49 rfl ?_
    refine wp_istore_n (i := 3) (Lo' := [some (.ref 0), some (.int x1), some (.int x2), some (.int (nI 0))]) dX11_goes_50 rfl (by decide) rfl rfl ?_
    exact wp_mask [true, true, true, true] h
  · replace h := h.2 q
    refine wp_aload_n (i := 0) dX11_goes_28 rfl rfl ?_
    refine wp_iload_n (i := 3) dX11_goes_29 rfl rfl ?_
    refine wp_iload_n (i := 1) dX11_goes_30 rfl rfl ?_
    refine wp_callVI (vs := [.int x3, .int x1]) (rest := []) dX11_goes_31 mV_X11_isUp lm_X11_72 hR_0 rfl rfl rfl (Nat.le_of_ble_eq_true rfl) (CallI.mono h (fun y2 σ1 h => ?_))
    refine wp_ifeq (tgt := 43) dX11_goes_34 (by decide) ⟨fun q => ?_, fun q => ?_⟩
    · replace h := h.1 q
      refine wp_iinc (i := 3) (v := x3 + nI 1) (Lo' := [some (.ref 0), some (.int x1), some (.int x2), some (.int (x3 + nI 1))]) dX11_goes_43 rfl (by rfl) (by decide) rfl rfl ?_
      refine wp_goto (tgt := 18) dX11_goes_46 (by decide) ?_
      exact wp_mask [true, true, true, true] h
    · replace h := h.2 q
      refine wp_aload_n (i := 0) dX11_goes_37 rfl rfl ?_
      refine wp_iload_n (i := 3) dX11_goes_38 rfl rfl ?_
      refine wp_iload_n (i := 1) dX11_goes_39 rfl rfl ?_
      refine wp_callVN (vs := [.int x3, .int x1]) (rest := []) dX11_goes_40 mV_X11_lives lm_X11_192 hR_0 rfl rfl rfl (Nat.le_of_ble_eq_true rfl) (CallN.mono h (fun σ3 h => ?_))
      refine wp_iinc (i := 3) (v := x3 + nI 1) (Lo' := [some (.ref 0), some (.int x1), some (.int x2), some (.int (x3 + nI 1))]) dX11_goes_43 rfl (by rfl) (by decide) rfl rfl ?_
      refine wp_goto (tgt := 18) dX11_goes_46 (by decide) ?_
      exact wp_mask [true, true, true, true] h
set_option maxRecDepth 20000 in
set_option maxHeartbeats 2000000 in
theorem vc_Md_goes {E : KE} {d : Nat} {σ : Sg} {K : Int32 → Sg → Prop} (h : vp_in (nI 0) 552 ∧ (CallI E shR d mX11_manyUp [.ref 0, .int ((σ 1 (nI 0).toNatClampNeg) - (σ 1 (nI 0).toNatClampNeg) / (nI 28) * (nI 28))] σ (fun y2 σ1 => WP E shR mX11_goes (d + 1) 18 [some (.ref 0), some (.int ((σ 1 (nI 0).toNatClampNeg) - (σ 1 (nI 0).toNatClampNeg) / (nI 28) * (nI 28))), some (.int y2), some (.int (nI 0))] [] σ1 (k_qi K)))) : CallI E shR (d + 1) mX11_goes [.ref 0] σ K := by
  refine wp_enter (Lo := [some (.ref 0), none, none, none]) mp_X11_goes (Nat.le_of_ble_eq_true rfl) rfl ?_
  refine wp_aload_n (i := 0) dX11_goes_0 rfl rfl ?_
  refine wp_getR (t := 1) dX11_goes_1 lf_X11_9 hR_0 rfl ?_
  refine wp_iconst (v := nI 0) dX11_goes_4 rfl ?_
  refine wp_iald dX11_goes_5 hR_1 ⟨h.1, ?_⟩
  replace h := h.2
  refine wp_bipush (v := nI 28) dX11_goes_6 (by decide) ?_
  refine wp_irem dX11_goes_8 ⟨by decide, ?_⟩
  refine wp_istore_n (i := 1) (Lo' := [some (.ref 0), some (.int ((σ 1 (nI 0).toNatClampNeg) - (σ 1 (nI 0).toNatClampNeg) / (nI 28) * (nI 28))), none, none]) dX11_goes_9 rfl (by decide) rfl rfl ?_
  refine wp_aload_n (i := 0) dX11_goes_10 rfl rfl ?_
  refine wp_iload_n (i := 1) dX11_goes_11 rfl rfl ?_
  refine wp_callVI (vs := [.int ((σ 1 (nI 0).toNatClampNeg) - (σ 1 (nI 0).toNatClampNeg) / (nI 28) * (nI 28))]) (rest := []) dX11_goes_12 mV_X11_manyUp lm_X11_189 hR_0 rfl rfl rfl (Nat.le_of_ble_eq_true rfl) (CallI.mono h (fun y2 σ1 h => ?_))
  refine wp_istore_n (i := 2) (Lo' := [some (.ref 0), some (.int ((σ 1 (nI 0).toNatClampNeg) - (σ 1 (nI 0).toNatClampNeg) / (nI 28) * (nI 28))), some (.int y2), none]) dX11_goes_15 rfl (by decide) rfl rfl ?_
  refine wp_iconst (v := nI 0) dX11_goes_16 rfl ?_
  refine wp_istore_n (i := 3) (Lo' := [some (.ref 0), some (.int ((σ 1 (nI 0).toNatClampNeg) - (σ 1 (nI 0).toNatClampNeg) / (nI 28) * (nI 28))), some (.int y2), some (.int (nI 0))]) dX11_goes_17 rfl (by decide) rfl rfl ?_
  exact wp_mask [true, true, true, true] h
set_option maxRecDepth 20000 in
set_option maxHeartbeats 2000000 in
theorem vb_Md_days_42 {E : KE} {d : Nat} {x1 : Int32} {x2 : Int32} {x3 : Int32} {σ : Sg} {K : Int32 → Sg → Prop} (h : (x1 ≤ x3 → K x2 σ) ∧ (¬ x1 ≤ x3 → CallI E shR d mX11_goes [.ref 0] σ (fun y2 σ1 => WP E shR mX11_days (d + 1) 42 [some (.ref 0), some (.int x1), some (.int (x2 + y2)), some (.int (x3 + nI 1))] [] σ1 (k_qi K)))) : WP E shR mX11_days (d + 1) 42 [some (.ref 0), some (.int x1), some (.int x2), some (.int x3)] [] σ (k_qi K) := by
  refine wp_iload_n (i := 3) dX11_days_42 rfl rfl ?_
  refine wp_iload_n (i := 1) dX11_days_43 rfl rfl ?_
  refine wp_icmpge (tgt := 60) dX11_days_44 (by decide) ⟨fun q => ?_, fun q => ?_⟩
  · replace h := h.1 q
    refine wp_iload_n (i := 2) dX11_days_60 rfl rfl ?_
    exact wp_ireturn dX11_days_61 rfl ⟨_, rfl, h⟩
  · replace h := h.2 q
    refine wp_iload_n (i := 2) dX11_days_47 rfl rfl ?_
    refine wp_aload_n (i := 0) dX11_days_48 rfl rfl ?_
    refine wp_callVI (vs := []) (rest := [.int x2]) dX11_days_49 mV_X11_goes lm_X11_195 hR_0 rfl rfl rfl (Nat.le_of_ble_eq_true rfl) (CallI.mono h (fun y2 σ1 h => ?_))
    refine wp_iadd dX11_days_52 ?_
    refine wp_istore_n (i := 2) (Lo' := [some (.ref 0), some (.int x1), some (.int (x2 + y2)), some (.int x3)]) dX11_days_53 rfl (by decide) rfl rfl ?_
    refine wp_iinc (i := 3) (v := x3 + nI 1) (Lo' := [some (.ref 0), some (.int x1), some (.int (x2 + y2)), some (.int (x3 + nI 1))]) dX11_days_54 rfl (by rfl) (by decide) rfl rfl ?_
    refine wp_goto (tgt := 42) dX11_days_57 (by decide) ?_
    exact wp_mask [true, true, true, true] h
set_option maxRecDepth 20000 in
set_option maxHeartbeats 2000000 in
theorem vc_Md_days {E : KE} {d : Nat} {x1 : Int32} {σ : Sg} {K : Int32 → Sg → Prop} (h : CallI E shR d mX11_in [.int x1, .int (nI 1), .int (nI 60)] σ (fun y2 σ1 => (¬ y2 = 0 → vp_in (nI 0) 552 ∧ ((((σ1 1 (nI 0).toNatClampNeg) + x1) ≤ (nI 9999) → WP E shR mX11_days (d + 1) 42 [some (.ref 0), some (.int x1), some (.int (nI 0)), some (.int (nI 0))] [] σ1 (k_qi K)) ∧ (¬ ((σ1 1 (nI 0).toNatClampNeg) + x1) ≤ (nI 9999) → CallI E shR d mX11_error [.ref 0, .int (-1000000003 : Int32)] σ1 (fun y4 σ3 => K y4 σ3)))) ∧ (y2 = 0 → CallI E shR d mX11_error [.ref 0, .int (-1000000001 : Int32)] σ1 (fun y6 σ5 => K y6 σ5)))) : CallI E shR (d + 1) mX11_days [.ref 0, .int x1] σ K := by
  refine wp_enter (Lo := [some (.ref 0), some (.int x1), none, none]) mp_X11_days (Nat.le_of_ble_eq_true rfl) rfl ?_
  refine wp_iload_n (i := 1) dX11_days_0 rfl rfl ?_
  refine wp_iconst (v := nI 1) dX11_days_1 rfl ?_
  refine wp_bipush (v := nI 60) dX11_days_2 (by decide) ?_
  refine wp_callSI (vs := [.int x1, .int (nI 1), .int (nI 60)]) (rest := []) dX11_days_4 mS_X11_in lm_X11_53 rfl rfl (Nat.le_of_ble_eq_true rfl) (CallI.mono h (fun y2 σ1 h => ?_))
  refine wp_ifne (tgt := 17) dX11_days_7 (by decide) ⟨fun q => ?_, fun q => ?_⟩
  · replace h := h.1 q
    refine wp_aload_n (i := 0) dX11_days_17 rfl rfl ?_
    refine wp_getR (t := 1) dX11_days_18 lf_X11_9 hR_0 rfl ?_
    refine wp_iconst (v := nI 0) dX11_days_21 rfl ?_
    refine wp_iald dX11_days_22 hR_1 ⟨h.1, ?_⟩
    replace h := h.2
    refine wp_iload_n (i := 1) dX11_days_23 rfl rfl ?_
    refine wp_iadd dX11_days_24 ?_
    refine wp_sipush (v := nI 9999) dX11_days_25 (by decide) ?_
    refine wp_icmple (tgt := 38) dX11_days_28 (by decide) ⟨fun q => ?_, fun q => ?_⟩
    · replace h := h.1 q
      refine wp_iconst (v := nI 0) dX11_days_38 rfl ?_
      refine wp_istore_n (i := 2) (Lo' := [some (.ref 0), some (.int x1), some (.int (nI 0)), none]) dX11_days_39 rfl (by decide) rfl rfl ?_
      refine wp_iconst (v := nI 0) dX11_days_40 rfl ?_
      refine wp_istore_n (i := 3) (Lo' := [some (.ref 0), some (.int x1), some (.int (nI 0)), some (.int (nI 0))]) dX11_days_41 rfl (by decide) rfl rfl ?_
      exact wp_mask [true, true, true, true] h
    · replace h := h.2 q
      refine wp_aload_n (i := 0) dX11_days_31 rfl rfl ?_
      refine wp_ldc lc_X11_118 dX11_days_32 ?_
      refine wp_callVI (vs := [.int (-1000000003 : Int32)]) (rest := []) dX11_days_34 mV_X11_error lm_X11_86 hR_0 rfl rfl rfl (Nat.le_of_ble_eq_true rfl) (CallI.mono h (fun y4 σ3 h => ?_))
      exact wp_ireturn dX11_days_37 rfl ⟨_, rfl, h⟩
  · replace h := h.2 q
    refine wp_aload_n (i := 0) dX11_days_10 rfl rfl ?_
    refine wp_ldc lc_X11_85 dX11_days_11 ?_
    refine wp_callVI (vs := [.int (-1000000001 : Int32)]) (rest := []) dX11_days_13 mV_X11_error lm_X11_86 hR_0 rfl rfl rfl (Nat.le_of_ble_eq_true rfl) (CallI.mono h (fun y6 σ5 h => ?_))
    exact wp_ireturn dX11_days_16 rfl ⟨_, rfl, h⟩
set_option maxRecDepth 20000 in
set_option maxHeartbeats 2000000 in
theorem vc_Md_draw {E : KE} {d : Nat} {σ : Sg} {K : Int32 → Sg → Prop} (h : vp_in (nI 1) 552 ∧ (vp_in (nI 1) 552 ∧ (∀ σ1, σ1 = k_put σ 1 (upd (σ 1) (nI 1).toNatClampNeg (((σ 1 (nI 1).toNatClampNeg) * (nI 1103515245)) + (nI 12345))) → vp_in (nI 1) 552 ∧ (K (((σ1 1 (nI 1).toNatClampNeg).toUInt32 >>> ((nI 8).toUInt32 &&& Int32.toUInt32 31)).toInt32) σ1)))) : CallI E shR d mX11_draw [.ref 0] σ K := by
  refine wp_enter (Lo := [some (.ref 0)]) mp_X11_draw (Nat.le_of_ble_eq_true rfl) rfl ?_
  refine wp_aload_n (i := 0) dX11_draw_0 rfl rfl ?_
  refine wp_getR (t := 1) dX11_draw_1 lf_X11_9 hR_0 rfl ?_
  refine wp_iconst (v := nI 1) dX11_draw_4 rfl ?_
  refine wp_aload_n (i := 0) dX11_draw_5 rfl rfl ?_
  refine wp_getR (t := 1) dX11_draw_6 lf_X11_9 hR_0 rfl ?_
  refine wp_iconst (v := nI 1) dX11_draw_9 rfl ?_
  refine wp_iald dX11_draw_10 hR_1 ⟨h.1, ?_⟩
  replace h := h.2
  refine wp_ldc lc_X11_198 dX11_draw_11 ?_
  refine wp_imul dX11_draw_13 ?_
  refine wp_sipush (v := nI 12345) dX11_draw_14 (by decide) ?_
  refine wp_iadd dX11_draw_17 ?_
  refine wp_iast dX11_draw_18 hR_1 ⟨h.1, ?_⟩
  refine wp_nm (fun σ1 e2 => ?_)
  replace h := h.2 σ1 e2
  refine wp_aload_n (i := 0) dX11_draw_19 rfl rfl ?_
  refine wp_getR (t := 1) dX11_draw_20 lf_X11_9 hR_0 rfl ?_
  refine wp_iconst (v := nI 1) dX11_draw_23 rfl ?_
  refine wp_iald dX11_draw_24 hR_1 ⟨h.1, ?_⟩
  replace h := h.2
  refine wp_bipush (v := nI 8) dX11_draw_25 (by decide) ?_
  refine wp_iushr dX11_draw_27 ?_
  exact wp_ireturn dX11_draw_28 rfl ⟨_, rfl, h⟩
set_option maxRecDepth 20000 in
set_option maxHeartbeats 2000000 in
theorem vc_Md_drawn {E : KE} {d : Nat} {σ : Sg} {K : Int32 → Sg → Prop} (h : CallI E shR d mX11_draw [.ref 0] σ (fun y2 σ1 => vp_in (nI 2) 552 ∧ (¬ (σ1 1 (nI 2).toNatClampNeg) = 0 ∧ (CallI E shR d mX11_draw [.ref 0] σ1 (fun y4 σ3 => vp_in (nI 2) 552 ∧ (¬ (σ3 1 (nI 2).toNatClampNeg) = 0 ∧ (CallI E shR d mX11_draw [.ref 0] σ3 (fun y6 σ5 => ((y2 - y2 / (σ1 1 (nI 2).toNatClampNeg) * (σ1 1 (nI 2).toNatClampNeg)) = (y4 - y4 / (σ3 1 (nI 2).toNatClampNeg) * (σ3 1 (nI 2).toNatClampNeg)) → K (nI 0) σ5) ∧ (¬ (y2 - y2 / (σ1 1 (nI 2).toNatClampNeg) * (σ1 1 (nI 2).toNatClampNeg)) = (y4 - y4 / (σ3 1 (nI 2).toNatClampNeg) * (σ3 1 (nI 2).toNatClampNeg)) → CallI E shR d mX11_canSell [.ref 0, .int (y2 - y2 / (σ1 1 (nI 2).toNatClampNeg) * (σ1 1 (nI 2).toNatClampNeg)), .int (y4 - y4 / (σ3 1 (nI 2).toNatClampNeg) * (σ3 1 (nI 2).toNatClampNeg)), .int (y6 - y6 / (nI 28) * (nI 28))] σ5 (fun y8 σ7 => (¬ y8 = 0 → CallI E shR d mX11_sells [.ref 0, .int (y2 - y2 / (σ1 1 (nI 2).toNatClampNeg) * (σ1 1 (nI 2).toNatClampNeg)), .int (y4 - y4 / (σ3 1 (nI 2).toNatClampNeg) * (σ3 1 (nI 2).toNatClampNeg)), .int (y6 - y6 / (nI 28) * (nI 28))] σ7 (fun y10 σ9 => K (nI 1) σ9)) ∧ (y8 = 0 → K (nI 0) σ7))))))))))) : CallI E shR (d + 1) mX11_drawn [.ref 0] σ K := by
  refine wp_enter (Lo := [some (.ref 0), none, none, none]) mp_X11_drawn (Nat.le_of_ble_eq_true rfl) rfl ?_
  refine wp_aload_n (i := 0) dX11_drawn_0 rfl rfl ?_
  refine wp_callVI (vs := []) (rest := []) dX11_drawn_1 mV_X11_draw lm_X11_199 hR_0 rfl rfl rfl (Nat.le_of_ble_eq_true rfl) (CallI.mono h (fun y2 σ1 h => ?_))
  refine wp_aload_n (i := 0) dX11_drawn_4 rfl rfl ?_
  refine wp_getR (t := 1) dX11_drawn_5 lf_X11_9 hR_0 rfl ?_
  refine wp_iconst (v := nI 2) dX11_drawn_8 rfl ?_
  refine wp_iald dX11_drawn_9 hR_1 ⟨h.1, ?_⟩
  replace h := h.2
  refine wp_irem dX11_drawn_10 ⟨h.1, ?_⟩
  replace h := h.2
  refine wp_istore_n (i := 1) (Lo' := [some (.ref 0), some (.int (y2 - y2 / (σ1 1 (nI 2).toNatClampNeg) * (σ1 1 (nI 2).toNatClampNeg))), none, none]) dX11_drawn_11 rfl (by decide) rfl rfl ?_
  refine wp_aload_n (i := 0) dX11_drawn_12 rfl rfl ?_
  refine wp_callVI (vs := []) (rest := []) dX11_drawn_13 mV_X11_draw lm_X11_199 hR_0 rfl rfl rfl (Nat.le_of_ble_eq_true rfl) (CallI.mono h (fun y4 σ3 h => ?_))
  refine wp_aload_n (i := 0) dX11_drawn_16 rfl rfl ?_
  refine wp_getR (t := 1) dX11_drawn_17 lf_X11_9 hR_0 rfl ?_
  refine wp_iconst (v := nI 2) dX11_drawn_20 rfl ?_
  refine wp_iald dX11_drawn_21 hR_1 ⟨h.1, ?_⟩
  replace h := h.2
  refine wp_irem dX11_drawn_22 ⟨h.1, ?_⟩
  replace h := h.2
  refine wp_istore_n (i := 2) (Lo' := [some (.ref 0), some (.int (y2 - y2 / (σ1 1 (nI 2).toNatClampNeg) * (σ1 1 (nI 2).toNatClampNeg))), some (.int (y4 - y4 / (σ3 1 (nI 2).toNatClampNeg) * (σ3 1 (nI 2).toNatClampNeg))), none]) dX11_drawn_23 rfl (by decide) rfl rfl ?_
  refine wp_aload_n (i := 0) dX11_drawn_24 rfl rfl ?_
  refine wp_callVI (vs := []) (rest := []) dX11_drawn_25 mV_X11_draw lm_X11_199 hR_0 rfl rfl rfl (Nat.le_of_ble_eq_true rfl) (CallI.mono h (fun y6 σ5 h => ?_))
  refine wp_bipush (v := nI 28) dX11_drawn_28 (by decide) ?_
  refine wp_irem dX11_drawn_30 ⟨by decide, ?_⟩
  refine wp_istore_n (i := 3) (Lo' := [some (.ref 0), some (.int (y2 - y2 / (σ1 1 (nI 2).toNatClampNeg) * (σ1 1 (nI 2).toNatClampNeg))), some (.int (y4 - y4 / (σ3 1 (nI 2).toNatClampNeg) * (σ3 1 (nI 2).toNatClampNeg))), some (.int (y6 - y6 / (nI 28) * (nI 28)))]) dX11_drawn_31 rfl (by decide) rfl rfl ?_
  refine wp_iload_n (i := 1) dX11_drawn_32 rfl rfl ?_
  refine wp_iload_n (i := 2) dX11_drawn_33 rfl rfl ?_
  refine wp_icmpeq (tgt := 47) dX11_drawn_34 (by decide) ⟨fun q => ?_, fun q => ?_⟩
  · replace h := h.1 q
    refine wp_iconst (v := nI 0) dX11_drawn_47 rfl ?_
    exact wp_ireturn dX11_drawn_48 rfl ⟨_, rfl, h⟩
  · replace h := h.2 q
    refine wp_aload_n (i := 0) dX11_drawn_37 rfl rfl ?_
    refine wp_iload_n (i := 1) dX11_drawn_38 rfl rfl ?_
    refine wp_iload_n (i := 2) dX11_drawn_39 rfl rfl ?_
    refine wp_iload_n (i := 3) dX11_drawn_40 rfl rfl ?_
    refine wp_callVI (vs := [.int (y2 - y2 / (σ1 1 (nI 2).toNatClampNeg) * (σ1 1 (nI 2).toNatClampNeg)), .int (y4 - y4 / (σ3 1 (nI 2).toNatClampNeg) * (σ3 1 (nI 2).toNatClampNeg)), .int (y6 - y6 / (nI 28) * (nI 28))]) (rest := []) dX11_drawn_41 mV_X11_canSell lm_X11_112 hR_0 rfl rfl rfl (Nat.le_of_ble_eq_true rfl) (CallI.mono h (fun y8 σ7 h => ?_))
    refine wp_ifne (tgt := 49) dX11_drawn_44 (by decide) ⟨fun q => ?_, fun q => ?_⟩
    · replace h := h.1 q
      refine wp_aload_n (i := 0) dX11_drawn_49 rfl rfl ?_
      refine wp_iload_n (i := 1) dX11_drawn_50 rfl rfl ?_
      refine wp_iload_n (i := 2) dX11_drawn_51 rfl rfl ?_
      refine wp_iload_n (i := 3) dX11_drawn_52 rfl rfl ?_
      refine wp_callVI (vs := [.int (y2 - y2 / (σ1 1 (nI 2).toNatClampNeg) * (σ1 1 (nI 2).toNatClampNeg)), .int (y4 - y4 / (σ3 1 (nI 2).toNatClampNeg) * (σ3 1 (nI 2).toNatClampNeg)), .int (y6 - y6 / (nI 28) * (nI 28))]) (rest := []) dX11_drawn_53 mV_X11_sells lm_X11_115 hR_0 rfl rfl rfl (Nat.le_of_ble_eq_true rfl) (CallI.mono h (fun y10 σ9 h => ?_))
      refine wp_pop dX11_drawn_56 rfl ?_
      refine wp_iconst (v := nI 1) dX11_drawn_57 rfl ?_
      exact wp_ireturn dX11_drawn_58 rfl ⟨_, rfl, h⟩
    · replace h := h.2 q
      refine wp_iconst (v := nI 0) dX11_drawn_47 rfl ?_
      exact wp_ireturn dX11_drawn_48 rfl ⟨_, rfl, h⟩
set_option maxRecDepth 20000 in
set_option maxHeartbeats 2000000 in
theorem vb_Md_loose_42 {E : KE} {d : Nat} {x1 : Int32} {x2 : Int32} {x3 : Int32} {σ : Sg} {K : Int32 → Sg → Prop} (h : (x1 ≤ x3 → K x2 σ) ∧ (¬ x1 ≤ x3 → vp_in (nI 2) 552 ∧ (((σ 1 (nI 2).toNatClampNeg) ≤ (nI 1) → CallI E shR d mX11_goes [.ref 0] σ (fun y2 σ1 => WP E shR mX11_loose (d + 1) 42 [some (.ref 0), some (.int x1), some (.int (x2 + (nI 0))), some (.int (x3 + nI 1))] [] σ1 (k_qi K))) ∧ (¬ (σ 1 (nI 2).toNatClampNeg) ≤ (nI 1) → CallI E shR d mX11_drawn [.ref 0] σ (fun y4 σ3 => CallI E shR d mX11_goes [.ref 0] σ3 (fun y6 σ5 => WP E shR mX11_loose (d + 1) 42 [some (.ref 0), some (.int x1), some (.int (x2 + y4)), some (.int (x3 + nI 1))] [] σ5 (k_qi K))))))) : WP E shR mX11_loose (d + 1) 42 [some (.ref 0), some (.int x1), some (.int x2), some (.int x3)] [] σ (k_qi K) := by
  refine wp_iload_n (i := 3) dX11_loose_42 rfl rfl ?_
  refine wp_iload_n (i := 1) dX11_loose_43 rfl rfl ?_
  refine wp_icmpge (tgt := 79) dX11_loose_44 (by decide) ⟨fun q => ?_, fun q => ?_⟩
  · replace h := h.1 q
    refine wp_iload_n (i := 2) dX11_loose_79 rfl rfl ?_
    exact wp_ireturn dX11_loose_80 rfl ⟨_, rfl, h⟩
  · replace h := h.2 q
    refine wp_iload_n (i := 2) dX11_loose_47 rfl rfl ?_
    refine wp_aload_n (i := 0) dX11_loose_48 rfl rfl ?_
    refine wp_getR (t := 1) dX11_loose_49 lf_X11_9 hR_0 rfl ?_
    refine wp_iconst (v := nI 2) dX11_loose_52 rfl ?_
    refine wp_iald dX11_loose_53 hR_1 ⟨h.1, ?_⟩
    replace h := h.2
    refine wp_iconst (v := nI 1) dX11_loose_54 rfl ?_
    refine wp_icmple (tgt := 65) dX11_loose_55 (by decide) ⟨fun q => ?_, fun q => ?_⟩
    · replace h := h.1 q
      refine wp_iconst (v := nI 0) dX11_loose_65 rfl ?_
      refine wp_iadd dX11_loose_66 ?_
      refine wp_istore_n (i := 2) (Lo' := [some (.ref 0), some (.int x1), some (.int (x2 + (nI 0))), some (.int x3)]) dX11_loose_67 rfl (by decide) rfl rfl ?_
      refine wp_aload_n (i := 0) dX11_loose_68 rfl rfl ?_
      refine wp_callVI (vs := []) (rest := []) dX11_loose_69 mV_X11_goes lm_X11_195 hR_0 rfl rfl rfl (Nat.le_of_ble_eq_true rfl) (CallI.mono h (fun y2 σ1 h => ?_))
      refine wp_pop dX11_loose_72 rfl ?_
      refine wp_iinc (i := 3) (v := x3 + nI 1) (Lo' := [some (.ref 0), some (.int x1), some (.int (x2 + (nI 0))), some (.int (x3 + nI 1))]) dX11_loose_73 rfl (by rfl) (by decide) rfl rfl ?_
      refine wp_goto (tgt := 42) dX11_loose_76 (by decide) ?_
      exact wp_mask [true, true, true, true] h
    · replace h := h.2 q
      refine wp_aload_n (i := 0) dX11_loose_58 rfl rfl ?_
      refine wp_callVI (vs := []) (rest := [.int x2]) dX11_loose_59 mV_X11_drawn lm_X11_202 hR_0 rfl rfl rfl (Nat.le_of_ble_eq_true rfl) (CallI.mono h (fun y4 σ3 h => ?_))
      refine wp_goto (tgt := 66) dX11_loose_62 (by decide) ?_
      refine wp_iadd dX11_loose_66 ?_
      refine wp_istore_n (i := 2) (Lo' := [some (.ref 0), some (.int x1), some (.int (x2 + y4)), some (.int x3)]) dX11_loose_67 rfl (by decide) rfl rfl ?_
      refine wp_aload_n (i := 0) dX11_loose_68 rfl rfl ?_
      refine wp_callVI (vs := []) (rest := []) dX11_loose_69 mV_X11_goes lm_X11_195 hR_0 rfl rfl rfl (Nat.le_of_ble_eq_true rfl) (CallI.mono h (fun y6 σ5 h => ?_))
      refine wp_pop dX11_loose_72 rfl ?_
      refine wp_iinc (i := 3) (v := x3 + nI 1) (Lo' := [some (.ref 0), some (.int x1), some (.int (x2 + y4)), some (.int (x3 + nI 1))]) dX11_loose_73 rfl (by rfl) (by decide) rfl rfl ?_
      refine wp_goto (tgt := 42) dX11_loose_76 (by decide) ?_
      exact wp_mask [true, true, true, true] h
set_option maxRecDepth 20000 in
set_option maxHeartbeats 2000000 in
theorem vc_Md_loose {E : KE} {d : Nat} {x1 : Int32} {σ : Sg} {K : Int32 → Sg → Prop} (h : CallI E shR d mX11_in [.int x1, .int (nI 1), .int (nI 40)] σ (fun y2 σ1 => (¬ y2 = 0 → vp_in (nI 0) 552 ∧ ((((σ1 1 (nI 0).toNatClampNeg) + x1) ≤ (nI 9999) → WP E shR mX11_loose (d + 1) 42 [some (.ref 0), some (.int x1), some (.int (nI 0)), some (.int (nI 0))] [] σ1 (k_qi K)) ∧ (¬ ((σ1 1 (nI 0).toNatClampNeg) + x1) ≤ (nI 9999) → CallI E shR d mX11_error [.ref 0, .int (-1000000003 : Int32)] σ1 (fun y4 σ3 => K y4 σ3)))) ∧ (y2 = 0 → CallI E shR d mX11_error [.ref 0, .int (-1000000001 : Int32)] σ1 (fun y6 σ5 => K y6 σ5)))) : CallI E shR (d + 1) mX11_loose [.ref 0, .int x1] σ K := by
  refine wp_enter (Lo := [some (.ref 0), some (.int x1), none, none]) mp_X11_loose (Nat.le_of_ble_eq_true rfl) rfl ?_
  refine wp_iload_n (i := 1) dX11_loose_0 rfl rfl ?_
  refine wp_iconst (v := nI 1) dX11_loose_1 rfl ?_
  refine wp_bipush (v := nI 40) dX11_loose_2 (by decide) ?_
  refine wp_callSI (vs := [.int x1, .int (nI 1), .int (nI 40)]) (rest := []) dX11_loose_4 mS_X11_in lm_X11_53 rfl rfl (Nat.le_of_ble_eq_true rfl) (CallI.mono h (fun y2 σ1 h => ?_))
  refine wp_ifne (tgt := 17) dX11_loose_7 (by decide) ⟨fun q => ?_, fun q => ?_⟩
  · replace h := h.1 q
    refine wp_aload_n (i := 0) dX11_loose_17 rfl rfl ?_
    refine wp_getR (t := 1) dX11_loose_18 lf_X11_9 hR_0 rfl ?_
    refine wp_iconst (v := nI 0) dX11_loose_21 rfl ?_
    refine wp_iald dX11_loose_22 hR_1 ⟨h.1, ?_⟩
    replace h := h.2
    refine wp_iload_n (i := 1) dX11_loose_23 rfl rfl ?_
    refine wp_iadd dX11_loose_24 ?_
    refine wp_sipush (v := nI 9999) dX11_loose_25 (by decide) ?_
    refine wp_icmple (tgt := 38) dX11_loose_28 (by decide) ⟨fun q => ?_, fun q => ?_⟩
    · replace h := h.1 q
      refine wp_iconst (v := nI 0) dX11_loose_38 rfl ?_
      refine wp_istore_n (i := 2) (Lo' := [some (.ref 0), some (.int x1), some (.int (nI 0)), none]) dX11_loose_39 rfl (by decide) rfl rfl ?_
      refine wp_iconst (v := nI 0) dX11_loose_40 rfl ?_
      refine wp_istore_n (i := 3) (Lo' := [some (.ref 0), some (.int x1), some (.int (nI 0)), some (.int (nI 0))]) dX11_loose_41 rfl (by decide) rfl rfl ?_
      exact wp_mask [true, true, true, true] h
    · replace h := h.2 q
      refine wp_aload_n (i := 0) dX11_loose_31 rfl rfl ?_
      refine wp_ldc lc_X11_118 dX11_loose_32 ?_
      refine wp_callVI (vs := [.int (-1000000003 : Int32)]) (rest := []) dX11_loose_34 mV_X11_error lm_X11_86 hR_0 rfl rfl rfl (Nat.le_of_ble_eq_true rfl) (CallI.mono h (fun y4 σ3 h => ?_))
      exact wp_ireturn dX11_loose_37 rfl ⟨_, rfl, h⟩
  · replace h := h.2 q
    refine wp_aload_n (i := 0) dX11_loose_10 rfl rfl ?_
    refine wp_ldc lc_X11_85 dX11_loose_11 ?_
    refine wp_callVI (vs := [.int (-1000000001 : Int32)]) (rest := []) dX11_loose_13 mV_X11_error lm_X11_86 hR_0 rfl rfl rfl (Nat.le_of_ble_eq_true rfl) (CallI.mono h (fun y6 σ5 h => ?_))
    exact wp_ireturn dX11_loose_16 rfl ⟨_, rfl, h⟩
set_option maxRecDepth 20000 in
set_option maxHeartbeats 2000000 in
theorem vc_Md_seed {E : KE} {d : Nat} {x1 : Int32} {σ : Sg} {K : Int32 → Sg → Prop} (h : CallI E shR d mX11_becomes [.ref 0, .int (nI 1), .int x1] σ (fun y2 σ1 => K y2 σ1)) : CallI E shR (d + 1) mX11_seed [.ref 0, .int x1] σ K := by
  refine wp_enter (Lo := [some (.ref 0), some (.int x1)]) mp_X11_seed (Nat.le_of_ble_eq_true rfl) rfl ?_
  refine wp_aload_n (i := 0) dX11_seed_0 rfl rfl ?_
  refine wp_iconst (v := nI 1) dX11_seed_1 rfl ?_
  refine wp_iload_n (i := 1) dX11_seed_2 rfl rfl ?_
  refine wp_callVI (vs := [.int (nI 1), .int x1]) (rest := []) dX11_seed_3 mV_X11_becomes lm_X11_95 hR_0 rfl rfl rfl (Nat.le_of_ble_eq_true rfl) (CallI.mono h (fun y2 σ1 h => ?_))
  exact wp_ireturn dX11_seed_6 rfl ⟨_, rfl, h⟩
set_option maxRecDepth 20000 in
set_option maxHeartbeats 2000000 in
theorem vb_Md_then_41 {E : KE} {d : Nat} {x1 : Int32} {x2 : Int32} {x3 : Int32} {x4 : Int32} {σ : Sg} {K : Int32 → Sg → Prop} (h : (x1 ≤ x4 → CallI E shR d mX11_of [.ref 0, .int x2, .int ((nI 2) + x3)] σ (fun y2 σ1 => CallN E shR d mX11_putsBack [.ref 0] σ1 (fun σ3 => K y2 σ3))) ∧ (¬ x1 ≤ x4 → CallI E shR d mX11_goes [.ref 0] σ (fun y5 σ4 => WP E shR mX11_then (d + 1) 41 [some (.ref 0), some (.int x1), some (.int x2), some (.int x3), some (.int (x4 + nI 1))] [] σ4 (k_qi K)))) : WP E shR mX11_then (d + 1) 41 [some (.ref 0), some (.int x1), some (.int x2), some (.int x3), some (.int x4)] [] σ (k_qi K) := by
  refine wp_iload (i := 4) dX11_then_41 rfl ?_
  refine wp_iload_n (i := 1) dX11_then_43 rfl rfl ?_
  refine wp_icmpge (tgt := 58) dX11_then_44 (by decide) ⟨fun q => ?_, fun q => ?_⟩
  · replace h := h.1 q
    refine wp_aload_n (i := 0) dX11_then_58 rfl rfl ?_
    refine wp_iload_n (i := 2) dX11_then_59 rfl rfl ?_
    refine wp_iconst (v := nI 2) dX11_then_60 rfl ?_
    refine wp_iload_n (i := 3) dX11_then_61 rfl rfl ?_
    refine wp_iadd dX11_then_62 ?_
    refine wp_callVI (vs := [.int x2, .int ((nI 2) + x3)]) (rest := []) dX11_then_63 mV_X11_of lm_X11_65 hR_0 rfl rfl rfl (Nat.le_of_ble_eq_true rfl) (CallI.mono h (fun y2 σ1 h => ?_))
    refine wp_istore (i := 4) (Lo' := [some (.ref 0), some (.int x1), some (.int x2), some (.int x3), some (.int y2)]) dX11_then_66 (by decide) rfl rfl ?_
    refine wp_aload_n (i := 0) dX11_then_68 rfl rfl ?_
    refine wp_callVN (vs := []) (rest := []) dX11_then_69 mV_X11_putsBack lm_X11_122 hR_0 rfl rfl rfl (Nat.le_of_ble_eq_true rfl) (CallN.mono h (fun σ3 h => ?_))
    refine wp_iload (i := 4) dX11_then_72 rfl ?_
    exact wp_ireturn dX11_then_74 rfl ⟨_, rfl, h⟩
  · replace h := h.2 q
    refine wp_aload_n (i := 0) dX11_then_47 rfl rfl ?_
    refine wp_callVI (vs := []) (rest := []) dX11_then_48 mV_X11_goes lm_X11_195 hR_0 rfl rfl rfl (Nat.le_of_ble_eq_true rfl) (CallI.mono h (fun y5 σ4 h => ?_))
    refine wp_pop dX11_then_51 rfl ?_
    refine wp_iinc (i := 4) (v := x4 + nI 1) (Lo' := [some (.ref 0), some (.int x1), some (.int x2), some (.int x3), some (.int (x4 + nI 1))]) dX11_then_52 rfl (by rfl) (by decide) rfl rfl ?_
    refine wp_goto (tgt := 41) dX11_then_55 (by decide) ?_
    exact wp_mask [true, true, true, true, true] h
set_option maxRecDepth 20000 in
set_option maxHeartbeats 2000000 in
theorem vc_Md_then {E : KE} {d : Nat} {x1 : Int32} {x2 : Int32} {x3 : Int32} {σ : Sg} {K : Int32 → Sg → Prop} (h : CallI E shR d mX11_in [.int x1, .int (nI 0), .int (nI 100)] σ (fun y2 σ1 => (y2 = 0 → CallI E shR d mX11_error [.ref 0, .int (-1000000001 : Int32)] σ1 (fun y4 σ3 => K y4 σ3)) ∧ (¬ y2 = 0 → CallI E shR d mX11_isPerson [.ref 0, .int x2] σ1 (fun y6 σ5 => (y6 = 0 → CallI E shR d mX11_error [.ref 0, .int (-1000000001 : Int32)] σ5 (fun y8 σ7 => K y8 σ7)) ∧ (¬ y6 = 0 → CallI E shR d mX11_in [.int x3, .int (nI 0), .int (nI 1)] σ5 (fun y10 σ9 => (¬ y10 = 0 → CallN E shR d mX11_thinks [.ref 0] σ9 (fun σ11 => WP E shR mX11_then (d + 1) 41 [some (.ref 0), some (.int x1), some (.int x2), some (.int x3), some (.int (nI 0))] [] σ11 (k_qi K))) ∧ (y10 = 0 → CallI E shR d mX11_error [.ref 0, .int (-1000000001 : Int32)] σ9 (fun y13 σ12 => K y13 σ12)))))))) : CallI E shR (d + 1) mX11_then [.ref 0, .int x1, .int x2, .int x3] σ K := by
  refine wp_enter (Lo := [some (.ref 0), some (.int x1), some (.int x2), some (.int x3), none]) mp_X11_then (Nat.le_of_ble_eq_true rfl) rfl ?_
  refine wp_iload_n (i := 1) dX11_then_0 rfl rfl ?_
  refine wp_iconst (v := nI 0) dX11_then_1 rfl ?_
  refine wp_bipush (v := nI 100) dX11_then_2 (by decide) ?_
  refine wp_callSI (vs := [.int x1, .int (nI 0), .int (nI 100)]) (rest := []) dX11_then_4 mS_X11_in lm_X11_53 rfl rfl (Nat.le_of_ble_eq_true rfl) (CallI.mono h (fun y2 σ1 h => ?_))
  refine wp_ifeq (tgt := 27) dX11_then_7 (by decide) ⟨fun q => ?_, fun q => ?_⟩
  · replace h := h.1 q
    refine wp_aload_n (i := 0) dX11_then_27 rfl rfl ?_
    refine wp_ldc lc_X11_85 dX11_then_28 ?_
    refine wp_callVI (vs := [.int (-1000000001 : Int32)]) (rest := []) dX11_then_30 mV_X11_error lm_X11_86 hR_0 rfl rfl rfl (Nat.le_of_ble_eq_true rfl) (CallI.mono h (fun y4 σ3 h => ?_))
    exact wp_ireturn dX11_then_33 rfl ⟨_, rfl, h⟩
  · replace h := h.2 q
    refine wp_aload_n (i := 0) dX11_then_10 rfl rfl ?_
    refine wp_iload_n (i := 2) dX11_then_11 rfl rfl ?_
    refine wp_callVI (vs := [.int x2]) (rest := []) dX11_then_12 mV_X11_isPerson lm_X11_57 hR_0 rfl rfl rfl (Nat.le_of_ble_eq_true rfl) (CallI.mono h (fun y6 σ5 h => ?_))
    refine wp_ifeq (tgt := 27) dX11_then_15 (by decide) ⟨fun q => ?_, fun q => ?_⟩
    · replace h := h.1 q
      refine wp_aload_n (i := 0) dX11_then_27 rfl rfl ?_
      refine wp_ldc lc_X11_85 dX11_then_28 ?_
      refine wp_callVI (vs := [.int (-1000000001 : Int32)]) (rest := []) dX11_then_30 mV_X11_error lm_X11_86 hR_0 rfl rfl rfl (Nat.le_of_ble_eq_true rfl) (CallI.mono h (fun y8 σ7 h => ?_))
      exact wp_ireturn dX11_then_33 rfl ⟨_, rfl, h⟩
    · replace h := h.2 q
      refine wp_iload_n (i := 3) dX11_then_18 rfl rfl ?_
      refine wp_iconst (v := nI 0) dX11_then_19 rfl ?_
      refine wp_iconst (v := nI 1) dX11_then_20 rfl ?_
      refine wp_callSI (vs := [.int x3, .int (nI 0), .int (nI 1)]) (rest := []) dX11_then_21 mS_X11_in lm_X11_53 rfl rfl (Nat.le_of_ble_eq_true rfl) (CallI.mono h (fun y10 σ9 h => ?_))
      refine wp_ifne (tgt := 34) dX11_then_24 (by decide) ⟨fun q => ?_, fun q => ?_⟩
      · replace h := h.1 q
        refine wp_aload_n (i := 0) dX11_then_34 rfl rfl ?_
        refine wp_callVN (vs := []) (rest := []) dX11_then_35 mV_X11_thinks lm_X11_119 hR_0 rfl rfl rfl (Nat.le_of_ble_eq_true rfl) (CallN.mono h (fun σ11 h => ?_))
        refine wp_iconst (v := nI 0) dX11_then_38 rfl ?_
        refine wp_istore (i := 4) (Lo' := [some (.ref 0), some (.int x1), some (.int x2), some (.int x3), some (.int (nI 0))]) dX11_then_39 (by decide) rfl rfl ?_
        exact wp_mask [true, true, true, true, true] h
      · replace h := h.2 q
        refine wp_aload_n (i := 0) dX11_then_27 rfl rfl ?_
        refine wp_ldc lc_X11_85 dX11_then_28 ?_
        refine wp_callVI (vs := [.int (-1000000001 : Int32)]) (rest := []) dX11_then_30 mV_X11_error lm_X11_86 hR_0 rfl rfl rfl (Nat.le_of_ble_eq_true rfl) (CallI.mono h (fun y13 σ12 h => ?_))
        exact wp_ireturn dX11_then_33 rfl ⟨_, rfl, h⟩
set_option maxRecDepth 20000 in
set_option maxHeartbeats 2000000 in
theorem vb_Md_alone_21 {E : KE} {d : Nat} {x1 : Int32} {x2 : Int32} {x3 : Int32} {σ : Sg} {K : Int32 → Sg → Prop} (h : (x1 ≤ x3 → K x2 σ) ∧ (¬ x1 ≤ x3 → vp_in (nI 0) 552 ∧ (CallI E shR d mX11_manyUp [.ref 0, .int (((σ 1 (nI 0).toNatClampNeg) + x3) - ((σ 1 (nI 0).toNatClampNeg) + x3) / (nI 28) * (nI 28))] σ (fun y2 σ1 => (¬ y2 = 0 → WP E shR mX11_alone (d + 1) 21 [some (.ref 0), some (.int x1), some (.int (x2 + (nI 0))), some (.int (x3 + nI 1))] [] σ1 (k_qi K)) ∧ (y2 = 0 → WP E shR mX11_alone (d + 1) 21 [some (.ref 0), some (.int x1), some (.int (x2 + (nI 1))), some (.int (x3 + nI 1))] [] σ1 (k_qi K)))))) : WP E shR mX11_alone (d + 1) 21 [some (.ref 0), some (.int x1), some (.int x2), some (.int x3)] [] σ (k_qi K) := by
  refine wp_iload_n (i := 3) dX11_alone_21 rfl rfl ?_
  refine wp_iload_n (i := 1) dX11_alone_22 rfl rfl ?_
  refine wp_icmpge (tgt := 58) dX11_alone_23 (by decide) ⟨fun q => ?_, fun q => ?_⟩
  · replace h := h.1 q
    refine wp_iload_n (i := 2) dX11_alone_58 rfl rfl ?_
    exact wp_ireturn dX11_alone_59 rfl ⟨_, rfl, h⟩
  · replace h := h.2 q
    refine wp_iload_n (i := 2) dX11_alone_26 rfl rfl ?_
    refine wp_aload_n (i := 0) dX11_alone_27 rfl rfl ?_
    refine wp_aload_n (i := 0) dX11_alone_28 rfl rfl ?_
    refine wp_getR (t := 1) dX11_alone_29 lf_X11_9 hR_0 rfl ?_
    refine wp_iconst (v := nI 0) dX11_alone_32 rfl ?_
    refine wp_iald dX11_alone_33 hR_1 ⟨h.1, ?_⟩
    replace h := h.2
    refine wp_iload_n (i := 3) dX11_alone_34 rfl rfl ?_
    refine wp_iadd dX11_alone_35 ?_
    refine wp_bipush (v := nI 28) dX11_alone_36 (by decide) ?_
    refine wp_irem dX11_alone_38 ⟨by decide, ?_⟩
    refine wp_callVI (vs := [.int (((σ 1 (nI 0).toNatClampNeg) + x3) - ((σ 1 (nI 0).toNatClampNeg) + x3) / (nI 28) * (nI 28))]) (rest := [.int x2]) dX11_alone_39 mV_X11_manyUp lm_X11_189 hR_0 rfl rfl rfl (Nat.le_of_ble_eq_true rfl) (CallI.mono h (fun y2 σ1 h => ?_))
    refine wp_ifne (tgt := 49) dX11_alone_42 (by decide) ⟨fun q => ?_, fun q => ?_⟩
    · replace h := h.1 q
      refine wp_iconst (v := nI 0) dX11_alone_49 rfl ?_
      refine wp_iadd dX11_alone_50 ?_
      refine wp_istore_n (i := 2) (Lo' := [some (.ref 0), some (.int x1), some (.int (x2 + (nI 0))), some (.int x3)]) dX11_alone_51 rfl (by decide) rfl rfl ?_
      refine wp_iinc (i := 3) (v := x3 + nI 1) (Lo' := [some (.ref 0), some (.int x1), some (.int (x2 + (nI 0))), some (.int (x3 + nI 1))]) dX11_alone_52 rfl (by rfl) (by decide) rfl rfl ?_
      refine wp_goto (tgt := 21) dX11_alone_55 (by decide) ?_
      exact wp_mask [true, true, true, true] h
    · replace h := h.2 q
      refine wp_iconst (v := nI 1) dX11_alone_45 rfl ?_
      refine wp_goto (tgt := 50) dX11_alone_46 (by decide) ?_
      refine wp_iadd dX11_alone_50 ?_
      refine wp_istore_n (i := 2) (Lo' := [some (.ref 0), some (.int x1), some (.int (x2 + (nI 1))), some (.int x3)]) dX11_alone_51 rfl (by decide) rfl rfl ?_
      refine wp_iinc (i := 3) (v := x3 + nI 1) (Lo' := [some (.ref 0), some (.int x1), some (.int (x2 + (nI 1))), some (.int (x3 + nI 1))]) dX11_alone_52 rfl (by rfl) (by decide) rfl rfl ?_
      refine wp_goto (tgt := 21) dX11_alone_55 (by decide) ?_
      exact wp_mask [true, true, true, true] h
set_option maxRecDepth 20000 in
set_option maxHeartbeats 2000000 in
theorem vc_Md_alone {E : KE} {d : Nat} {x1 : Int32} {σ : Sg} {K : Int32 → Sg → Prop} (h : CallI E shR d mX11_in [.int x1, .int (nI 1), .int (nI 60)] σ (fun y2 σ1 => (¬ y2 = 0 → WP E shR mX11_alone (d + 1) 21 [some (.ref 0), some (.int x1), some (.int (nI 0)), some (.int (nI 0))] [] σ1 (k_qi K)) ∧ (y2 = 0 → CallI E shR d mX11_error [.ref 0, .int (-1000000001 : Int32)] σ1 (fun y4 σ3 => K y4 σ3)))) : CallI E shR (d + 1) mX11_alone [.ref 0, .int x1] σ K := by
  refine wp_enter (Lo := [some (.ref 0), some (.int x1), none, none]) mp_X11_alone (Nat.le_of_ble_eq_true rfl) rfl ?_
  refine wp_iload_n (i := 1) dX11_alone_0 rfl rfl ?_
  refine wp_iconst (v := nI 1) dX11_alone_1 rfl ?_
  refine wp_bipush (v := nI 60) dX11_alone_2 (by decide) ?_
  refine wp_callSI (vs := [.int x1, .int (nI 1), .int (nI 60)]) (rest := []) dX11_alone_4 mS_X11_in lm_X11_53 rfl rfl (Nat.le_of_ble_eq_true rfl) (CallI.mono h (fun y2 σ1 h => ?_))
  refine wp_ifne (tgt := 17) dX11_alone_7 (by decide) ⟨fun q => ?_, fun q => ?_⟩
  · replace h := h.1 q
    refine wp_iconst (v := nI 0) dX11_alone_17 rfl ?_
    refine wp_istore_n (i := 2) (Lo' := [some (.ref 0), some (.int x1), some (.int (nI 0)), none]) dX11_alone_18 rfl (by decide) rfl rfl ?_
    refine wp_iconst (v := nI 0) dX11_alone_19 rfl ?_
    refine wp_istore_n (i := 3) (Lo' := [some (.ref 0), some (.int x1), some (.int (nI 0)), some (.int (nI 0))]) dX11_alone_20 rfl (by decide) rfl rfl ?_
    exact wp_mask [true, true, true, true] h
  · replace h := h.2 q
    refine wp_aload_n (i := 0) dX11_alone_10 rfl rfl ?_
    refine wp_ldc lc_X11_85 dX11_alone_11 ?_
    refine wp_callVI (vs := [.int (-1000000001 : Int32)]) (rest := []) dX11_alone_13 mV_X11_error lm_X11_86 hR_0 rfl rfl rfl (Nat.le_of_ble_eq_true rfl) (CallI.mono h (fun y4 σ3 h => ?_))
    exact wp_ireturn dX11_alone_16 rfl ⟨_, rfl, h⟩
set_option maxRecDepth 20000 in
set_option maxHeartbeats 2000000 in
theorem vb_Md_meet_18 {E : KE} {d : Nat} {x1 : Int32} {x2 : Int32} {x3 : Int32} {σ : Sg} {K : Int32 → Sg → Prop} (h : ((nI 28) ≤ x3 → CallI E shR d mX11_error [.ref 0, .int (-1000000002 : Int32)] σ (fun y2 σ1 => K y2 σ1)) ∧ (¬ (nI 28) ≤ x3 → vp_in (nI 0) 552 ∧ (CallI E shR d mX11_isUp [.ref 0, .int x1, .int (((σ 1 (nI 0).toNatClampNeg) + x3) - ((σ 1 (nI 0).toNatClampNeg) + x3) / (nI 28) * (nI 28))] σ (fun y4 σ3 => (y4 = 0 → WP E shR mX11_meet (d + 1) 18 [some (.ref 0), some (.int x1), some (.int x2), some (.int (x3 + nI 1)), none] [] σ3 (k_qi K)) ∧ (¬ y4 = 0 → CallI E shR d mX11_isUp [.ref 0, .int x2, .int (((σ 1 (nI 0).toNatClampNeg) + x3) - ((σ 1 (nI 0).toNatClampNeg) + x3) / (nI 28) * (nI 28))] σ3 (fun y6 σ5 => (y6 = 0 → WP E shR mX11_meet (d + 1) 18 [some (.ref 0), some (.int x1), some (.int x2), some (.int (x3 + nI 1)), none] [] σ5 (k_qi K)) ∧ (¬ y6 = 0 → K x3 σ5))))))) : WP E shR mX11_meet (d + 1) 18 [some (.ref 0), some (.int x1), some (.int x2), some (.int x3), none] [] σ (k_qi K) := by
  refine wp_iload_n (i := 3) dX11_meet_18 rfl rfl ?_
  refine wp_bipush (v := nI 28) dX11_meet_19 (by decide) ?_
  refine wp_icmpge (tgt := 65) dX11_meet_21 (by decide) ⟨fun q => ?_, fun q => ?_⟩
  · replace h := h.1 q
    refine wp_aload_n (i := 0) dX11_meet_65 rfl rfl ?_
    refine wp_ldc lc_X11_209 dX11_meet_66 ?_
    refine wp_callVI (vs := [.int (-1000000002 : Int32)]) (rest := []) dX11_meet_68 mV_X11_error lm_X11_86 hR_0 rfl rfl rfl (Nat.le_of_ble_eq_true rfl) (CallI.mono h (fun y2 σ1 h => ?_))
    exact wp_ireturn dX11_meet_71 rfl ⟨_, rfl, h⟩
  · replace h := h.2 q
    refine wp_aload_n (i := 0) dX11_meet_24 rfl rfl ?_
    refine wp_getR (t := 1) dX11_meet_25 lf_X11_9 hR_0 rfl ?_
    refine wp_iconst (v := nI 0) dX11_meet_28 rfl ?_
    refine wp_iald dX11_meet_29 hR_1 ⟨h.1, ?_⟩
    replace h := h.2
    refine wp_iload_n (i := 3) dX11_meet_30 rfl rfl ?_
    refine wp_iadd dX11_meet_31 ?_
    refine wp_bipush (v := nI 28) dX11_meet_32 (by decide) ?_
    refine wp_irem dX11_meet_34 ⟨by decide, ?_⟩
    refine wp_istore (i := 4) (Lo' := [some (.ref 0), some (.int x1), some (.int x2), some (.int x3), some (.int (((σ 1 (nI 0).toNatClampNeg) + x3) - ((σ 1 (nI 0).toNatClampNeg) + x3) / (nI 28) * (nI 28)))]) dX11_meet_35 (by decide) rfl rfl ?_
    refine wp_aload_n (i := 0) dX11_meet_37 rfl rfl ?_
    refine wp_iload_n (i := 1) dX11_meet_38 rfl rfl ?_
    refine wp_iload (i := 4) dX11_meet_39 rfl ?_
    refine wp_callVI (vs := [.int x1, .int (((σ 1 (nI 0).toNatClampNeg) + x3) - ((σ 1 (nI 0).toNatClampNeg) + x3) / (nI 28) * (nI 28))]) (rest := []) dX11_meet_41 mV_X11_isUp lm_X11_72 hR_0 rfl rfl rfl (Nat.le_of_ble_eq_true rfl) (CallI.mono h (fun y4 σ3 h => ?_))
    refine wp_ifeq (tgt := 59) dX11_meet_44 (by decide) ⟨fun q => ?_, fun q => ?_⟩
    · replace h := h.1 q
      refine wp_iinc (i := 3) (v := x3 + nI 1) (Lo' := [some (.ref 0), some (.int x1), some (.int x2), some (.int (x3 + nI 1)), some (.int (((σ 1 (nI 0).toNatClampNeg) + x3) - ((σ 1 (nI 0).toNatClampNeg) + x3) / (nI 28) * (nI 28)))]) dX11_meet_59 rfl (by rfl) (by decide) rfl rfl ?_
      refine wp_goto (tgt := 18) dX11_meet_62 (by decide) ?_
      exact wp_mask [true, true, true, true, false] h
    · replace h := h.2 q
      refine wp_aload_n (i := 0) dX11_meet_47 rfl rfl ?_
      refine wp_iload_n (i := 2) dX11_meet_48 rfl rfl ?_
      refine wp_iload (i := 4) dX11_meet_49 rfl ?_
      refine wp_callVI (vs := [.int x2, .int (((σ 1 (nI 0).toNatClampNeg) + x3) - ((σ 1 (nI 0).toNatClampNeg) + x3) / (nI 28) * (nI 28))]) (rest := []) dX11_meet_51 mV_X11_isUp lm_X11_72 hR_0 rfl rfl rfl (Nat.le_of_ble_eq_true rfl) (CallI.mono h (fun y6 σ5 h => ?_))
      refine wp_ifeq (tgt := 59) dX11_meet_54 (by decide) ⟨fun q => ?_, fun q => ?_⟩
      · replace h := h.1 q
        refine wp_iinc (i := 3) (v := x3 + nI 1) (Lo' := [some (.ref 0), some (.int x1), some (.int x2), some (.int (x3 + nI 1)), some (.int (((σ 1 (nI 0).toNatClampNeg) + x3) - ((σ 1 (nI 0).toNatClampNeg) + x3) / (nI 28) * (nI 28)))]) dX11_meet_59 rfl (by rfl) (by decide) rfl rfl ?_
        refine wp_goto (tgt := 18) dX11_meet_62 (by decide) ?_
        exact wp_mask [true, true, true, true, false] h
      · replace h := h.2 q
        refine wp_iload_n (i := 3) dX11_meet_57 rfl rfl ?_
        exact wp_ireturn dX11_meet_58 rfl ⟨_, rfl, h⟩
set_option maxRecDepth 20000 in
set_option maxHeartbeats 2000000 in
theorem vc_Md_meet {E : KE} {d : Nat} {x1 : Int32} {x2 : Int32} {σ : Sg} {K : Int32 → Sg → Prop} (h : CallI E shR d mX11_areTwo [.ref 0, .int x1, .int x2] σ (fun y2 σ1 => (¬ y2 = 0 → WP E shR mX11_meet (d + 1) 18 [some (.ref 0), some (.int x1), some (.int x2), some (.int (nI 0)), none] [] σ1 (k_qi K)) ∧ (y2 = 0 → CallI E shR d mX11_error [.ref 0, .int (-1000000001 : Int32)] σ1 (fun y4 σ3 => K y4 σ3)))) : CallI E shR (d + 1) mX11_meet [.ref 0, .int x1, .int x2] σ K := by
  refine wp_enter (Lo := [some (.ref 0), some (.int x1), some (.int x2), none, none]) mp_X11_meet (Nat.le_of_ble_eq_true rfl) rfl ?_
  refine wp_aload_n (i := 0) dX11_meet_0 rfl rfl ?_
  refine wp_iload_n (i := 1) dX11_meet_1 rfl rfl ?_
  refine wp_iload_n (i := 2) dX11_meet_2 rfl rfl ?_
  refine wp_callVI (vs := [.int x1, .int x2]) (rest := []) dX11_meet_3 mV_X11_areTwo lm_X11_109 hR_0 rfl rfl rfl (Nat.le_of_ble_eq_true rfl) (CallI.mono h (fun y2 σ1 h => ?_))
  refine wp_ifne (tgt := 16) dX11_meet_6 (by decide) ⟨fun q => ?_, fun q => ?_⟩
  · replace h := h.1 q
    refine wp_iconst (v := nI 0) dX11_meet_16 rfl ?_
    refine wp_istore_n (i := 3) (Lo' := [some (.ref 0), some (.int x1), some (.int x2), some (.int (nI 0)), none]) dX11_meet_17 rfl (by decide) rfl rfl ?_
    exact wp_mask [true, true, true, true, false] h
  · replace h := h.2 q
    refine wp_aload_n (i := 0) dX11_meet_9 rfl rfl ?_
    refine wp_ldc lc_X11_85 dX11_meet_10 ?_
    refine wp_callVI (vs := [.int (-1000000001 : Int32)]) (rest := []) dX11_meet_12 mV_X11_error lm_X11_86 hR_0 rfl rfl rfl (Nat.le_of_ble_eq_true rfl) (CallI.mono h (fun y4 σ3 h => ?_))
    exact wp_ireturn dX11_meet_15 rfl ⟨_, rfl, h⟩
set_option maxRecDepth 20000 in
set_option maxHeartbeats 2000000 in
theorem vb_Md_doKeep_13 {E : KE} {d : Nat} {x1 : Int32} {x2 : Int32} {x3 : Int32} {x4 : Int32} {σ : Sg} {K : Int32 → Sg → Prop} (h : vp_in (nI 2) 552 ∧ (((σ 1 (nI 2).toNatClampNeg) ≤ x4 → (¬ x3 = 0 → WP E shR mX11_doKeep (d + 1) 2 [some (.ref 0), some (.int x1), some (.int (x2 + nI 1)), none, none] [] σ (k_qi K)) ∧ (x3 = 0 → K (nI 0) σ)) ∧ (¬ (σ 1 (nI 2).toNatClampNeg) ≤ x4 → (¬ x3 = 0 → WP E shR mX11_doKeep (d + 1) 13 [some (.ref 0), some (.int x1), some (.int x2), some (.int (nI 1)), some (.int (x4 + nI 1))] [] σ (k_qi K)) ∧ (x3 = 0 → (¬ ((x1 >>> (x4 &&& 31)) &&& (nI 1)) = (nI 1) → WP E shR mX11_doKeep (d + 1) 13 [some (.ref 0), some (.int x1), some (.int x2), some (.int (nI 0)), some (.int (x4 + nI 1))] [] σ (k_qi K)) ∧ (((x1 >>> (x4 &&& 31)) &&& (nI 1)) = (nI 1) → CallI E shR d mX11_isUp [.ref 0, .int x4, .int x2] σ (fun y2 σ1 => (y2 = 0 → WP E shR mX11_doKeep (d + 1) 13 [some (.ref 0), some (.int x1), some (.int x2), some (.int (nI 0)), some (.int (x4 + nI 1))] [] σ1 (k_qi K)) ∧ (¬ y2 = 0 → WP E shR mX11_doKeep (d + 1) 13 [some (.ref 0), some (.int x1), some (.int x2), some (.int (nI 1)), some (.int (x4 + nI 1))] [] σ1 (k_qi K)))))))) : WP E shR mX11_doKeep (d + 1) 13 [some (.ref 0), some (.int x1), some (.int x2), some (.int x3), some (.int x4)] [] σ (k_qi K) := by
  refine wp_iload (i := 4) dX11_doKeep_13 rfl ?_
  refine wp_aload_n (i := 0) dX11_doKeep_15 rfl rfl ?_
  refine wp_getR (t := 1) dX11_doKeep_16 lf_X11_9 hR_0 rfl ?_
  refine wp_iconst (v := nI 2) dX11_doKeep_19 rfl ?_
  refine wp_iald dX11_doKeep_20 hR_1 ⟨h.1, ?_⟩
  replace h := h.2
  refine wp_icmpge (tgt := 60) dX11_doKeep_21 (by decide) ⟨fun q => ?_, fun q => ?_⟩
  · replace h := h.1 q
    refine wp_iload_n (i := 3) dX11_doKeep_60 rfl rfl ?_
    refine wp_ifne (tgt := 66) dX11_doKeep_61 (by decide) ⟨fun q => ?_, fun q => ?_⟩
    · replace h := h.1 q
      refine wp_iinc (i := 2) (v := x2 + nI 1) (Lo' := [some (.ref 0), some (.int x1), some (.int (x2 + nI 1)), some (.int x3), some (.int x4)]) dX11_doKeep_66 rfl (by rfl) (by decide) rfl rfl ?_
      refine wp_goto (tgt := 2) dX11_doKeep_69 (by decide) ?_
      exact wp_mask [true, true, true, false, false] h
    · replace h := h.2 q
      refine wp_iconst (v := nI 0) dX11_doKeep_64 rfl ?_
      exact wp_zreturn dX11_doKeep_65 rfl ⟨rfl, _, rfl, h⟩
  · replace h := h.2 q
    refine wp_iload_n (i := 3) dX11_doKeep_24 rfl rfl ?_
    refine wp_ifne (tgt := 48) dX11_doKeep_25 (by decide) ⟨fun q => ?_, fun q => ?_⟩
    · replace h := h.1 q
      refine wp_iconst (v := nI 1) dX11_doKeep_48 rfl ?_
      refine wp_goto (tgt := 53) dX11_doKeep_49 (by decide) ?_
      refine wp_istore_n (i := 3) (Lo' := [some (.ref 0), some (.int x1), some (.int x2), some (.int (nI 1)), some (.int x4)]) dX11_doKeep_53 rfl (by decide) rfl rfl ?_
      refine wp_iinc (i := 4) (v := x4 + nI 1) (Lo' := [some (.ref 0), some (.int x1), some (.int x2), some (.int (nI 1)), some (.int (x4 + nI 1))]) dX11_doKeep_54 rfl (by rfl) (by decide) rfl rfl ?_
      refine wp_goto (tgt := 13) dX11_doKeep_57 (by decide) ?_
      exact wp_mask [true, true, true, true, true] h
    · replace h := h.2 q
      refine wp_iload_n (i := 1) dX11_doKeep_28 rfl rfl ?_
      refine wp_iload (i := 4) dX11_doKeep_29 rfl ?_
      refine wp_ishr dX11_doKeep_31 ?_
      refine wp_iconst (v := nI 1) dX11_doKeep_32 rfl ?_
      refine wp_iand dX11_doKeep_33 ?_
      refine wp_iconst (v := nI 1) dX11_doKeep_34 rfl ?_
      refine wp_icmpne (tgt := 52) dX11_doKeep_35 (by decide) ⟨fun q => ?_, fun q => ?_⟩
      · replace h := h.1 q
        refine wp_iconst (v := nI 0) dX11_doKeep_52 rfl ?_
        refine wp_istore_n (i := 3) (Lo' := [some (.ref 0), some (.int x1), some (.int x2), some (.int (nI 0)), some (.int x4)]) dX11_doKeep_53 rfl (by decide) rfl rfl ?_
        refine wp_iinc (i := 4) (v := x4 + nI 1) (Lo' := [some (.ref 0), some (.int x1), some (.int x2), some (.int (nI 0)), some (.int (x4 + nI 1))]) dX11_doKeep_54 rfl (by rfl) (by decide) rfl rfl ?_
        refine wp_goto (tgt := 13) dX11_doKeep_57 (by decide) ?_
        exact wp_mask [true, true, true, true, true] h
      · replace h := h.2 q
        refine wp_aload_n (i := 0) dX11_doKeep_38 rfl rfl ?_
        refine wp_iload (i := 4) dX11_doKeep_39 rfl ?_
        refine wp_iload_n (i := 2) dX11_doKeep_41 rfl rfl ?_
        refine wp_callVI (vs := [.int x4, .int x2]) (rest := []) dX11_doKeep_42 mV_X11_isUp lm_X11_72 hR_0 rfl rfl rfl (Nat.le_of_ble_eq_true rfl) (CallI.mono h (fun y2 σ1 h => ?_))
        refine wp_ifeq (tgt := 52) dX11_doKeep_45 (by decide) ⟨fun q => ?_, fun q => ?_⟩
        · replace h := h.1 q
          refine wp_iconst (v := nI 0) dX11_doKeep_52 rfl ?_
          refine wp_istore_n (i := 3) (Lo' := [some (.ref 0), some (.int x1), some (.int x2), some (.int (nI 0)), some (.int x4)]) dX11_doKeep_53 rfl (by decide) rfl rfl ?_
          refine wp_iinc (i := 4) (v := x4 + nI 1) (Lo' := [some (.ref 0), some (.int x1), some (.int x2), some (.int (nI 0)), some (.int (x4 + nI 1))]) dX11_doKeep_54 rfl (by rfl) (by decide) rfl rfl ?_
          refine wp_goto (tgt := 13) dX11_doKeep_57 (by decide) ?_
          exact wp_mask [true, true, true, true, true] h
        · replace h := h.2 q
          refine wp_iconst (v := nI 1) dX11_doKeep_48 rfl ?_
          refine wp_goto (tgt := 53) dX11_doKeep_49 (by decide) ?_
          refine wp_istore_n (i := 3) (Lo' := [some (.ref 0), some (.int x1), some (.int x2), some (.int (nI 1)), some (.int x4)]) dX11_doKeep_53 rfl (by decide) rfl rfl ?_
          refine wp_iinc (i := 4) (v := x4 + nI 1) (Lo' := [some (.ref 0), some (.int x1), some (.int x2), some (.int (nI 1)), some (.int (x4 + nI 1))]) dX11_doKeep_54 rfl (by rfl) (by decide) rfl rfl ?_
          refine wp_goto (tgt := 13) dX11_doKeep_57 (by decide) ?_
          exact wp_mask [true, true, true, true, true] h
set_option maxRecDepth 20000 in
set_option maxHeartbeats 2000000 in
theorem vb_Md_doKeep_2 {E : KE} {d : Nat} {x1 : Int32} {x2 : Int32} {σ : Sg} {K : Int32 → Sg → Prop} (h : ((nI 28) ≤ x2 → K (nI 1) σ) ∧ (¬ (nI 28) ≤ x2 → WP E shR mX11_doKeep (d + 1) 13 [some (.ref 0), some (.int x1), some (.int x2), some (.int (nI 0)), some (.int (nI 0))] [] σ (k_qi K))) : WP E shR mX11_doKeep (d + 1) 2 [some (.ref 0), some (.int x1), some (.int x2), none, none] [] σ (k_qi K) := by
  refine wp_iload_n (i := 2) dX11_doKeep_2 rfl rfl ?_
  refine wp_bipush (v := nI 28) dX11_doKeep_3 (by decide) ?_
  refine wp_icmpge (tgt := 72) dX11_doKeep_5 (by decide) ⟨fun q => ?_, fun q => ?_⟩
  · replace h := h.1 q
    refine wp_iconst (v := nI 1) dX11_doKeep_72 rfl ?_
    exact wp_zreturn dX11_doKeep_73 rfl ⟨rfl, _, rfl, h⟩
  · replace h := h.2 q
    refine wp_iconst (v := nI 0) dX11_doKeep_8 rfl ?_
    refine wp_istore_n (i := 3) (Lo' := [some (.ref 0), some (.int x1), some (.int x2), some (.int (nI 0)), none]) dX11_doKeep_9 rfl (by decide) rfl rfl ?_
    refine wp_iconst (v := nI 0) dX11_doKeep_10 rfl ?_
    refine wp_istore (i := 4) (Lo' := [some (.ref 0), some (.int x1), some (.int x2), some (.int (nI 0)), some (.int (nI 0))]) dX11_doKeep_11 (by decide) rfl rfl ?_
    exact wp_mask [true, true, true, true, true] h
set_option maxRecDepth 20000 in
set_option maxHeartbeats 2000000 in
theorem vc_Md_doKeep {E : KE} {d : Nat} {x1 : Int32} {σ : Sg} {K : Int32 → Sg → Prop} (h : WP E shR mX11_doKeep (d + 1) 2 [some (.ref 0), some (.int x1), some (.int (nI 0)), none, none] [] σ (k_qi K)) : CallI E shR (d + 1) mX11_doKeep [.ref 0, .int x1] σ K := by
  refine wp_enter (Lo := [some (.ref 0), some (.int x1), none, none, none]) mp_X11_doKeep (Nat.le_of_ble_eq_true rfl) rfl ?_
  refine wp_iconst (v := nI 0) dX11_doKeep_0 rfl ?_
  refine wp_istore_n (i := 2) (Lo' := [some (.ref 0), some (.int x1), some (.int (nI 0)), none, none]) dX11_doKeep_1 rfl (by decide) rfl rfl ?_
  exact wp_mask [true, true, true, false, false] h
set_option maxRecDepth 20000 in
set_option maxHeartbeats 2000000 in
theorem vb_Md_keepers_20 {E : KE} {d : Nat} {x1 : Int32} {x2 : Int32} {x3 : Int32} {σ : Sg} {K : Int32 → Sg → Prop} (h : vp_in (nI 2) 552 ∧ ((((nI 1) <<< ((σ 1 (nI 2).toNatClampNeg) &&& 31)) ≤ x3 → (0 ≤ x2 → (¬ x1 = 0 → K x2 σ) ∧ (x1 = 0 → CallI E shR d mX11_bits [.int x2] σ (fun y2 σ1 => K y2 σ1))) ∧ (¬ 0 ≤ x2 → CallI E shR d mX11_error [.ref 0, .int (-1000000002 : Int32)] σ (fun y4 σ3 => K y4 σ3))) ∧ (¬ ((nI 1) <<< ((σ 1 (nI 2).toNatClampNeg) &&& 31)) ≤ x3 → (x2 < 0 → CallI E shR d mX11_doKeep [.ref 0, .int x3] σ (fun y6 σ5 => (y6 = 0 → WP E shR mX11_keepers (d + 1) 20 [some (.ref 0), some (.int x1), some (.int x2), some (.int (x3 + nI 1))] [] σ5 (k_qi K)) ∧ (¬ y6 = 0 → WP E shR mX11_keepers (d + 1) 20 [some (.ref 0), some (.int x1), some (.int x3), some (.int (x3 + nI 1))] [] σ5 (k_qi K)))) ∧ (¬ x2 < 0 → CallI E shR d mX11_bits [.int x3] σ (fun y8 σ7 => CallI E shR d mX11_bits [.int x2] σ7 (fun y10 σ9 => (y10 ≤ y8 → WP E shR mX11_keepers (d + 1) 20 [some (.ref 0), some (.int x1), some (.int x2), some (.int (x3 + nI 1))] [] σ9 (k_qi K)) ∧ (¬ y10 ≤ y8 → CallI E shR d mX11_doKeep [.ref 0, .int x3] σ9 (fun y12 σ11 => (y12 = 0 → WP E shR mX11_keepers (d + 1) 20 [some (.ref 0), some (.int x1), some (.int x2), some (.int (x3 + nI 1))] [] σ11 (k_qi K)) ∧ (¬ y12 = 0 → WP E shR mX11_keepers (d + 1) 20 [some (.ref 0), some (.int x1), some (.int x3), some (.int (x3 + nI 1))] [] σ11 (k_qi K)))))))))) : WP E shR mX11_keepers (d + 1) 20 [some (.ref 0), some (.int x1), some (.int x2), some (.int x3)] [] σ (k_qi K) := by
  refine wp_iload_n (i := 3) dX11_keepers_20 rfl rfl ?_
  refine wp_iconst (v := nI 1) dX11_keepers_21 rfl ?_
  refine wp_aload_n (i := 0) dX11_keepers_22 rfl rfl ?_
  refine wp_getR (t := 1) dX11_keepers_23 lf_X11_9 hR_0 rfl ?_
  refine wp_iconst (v := nI 2) dX11_keepers_26 rfl ?_
  refine wp_iald dX11_keepers_27 hR_1 ⟨h.1, ?_⟩
  replace h := h.2
  refine wp_ishl dX11_keepers_28 ?_
  refine wp_icmpge (tgt := 67) dX11_keepers_29 (by decide) ⟨fun q => ?_, fun q => ?_⟩
  · replace h := h.1 q
    refine wp_iload_n (i := 2) dX11_keepers_67 rfl rfl ?_
    refine wp_ifge (tgt := 80) dX11_keepers_68 (by decide) ⟨fun q => ?_, fun q => ?_⟩
    · replace h := h.1 q
      refine wp_iload_n (i := 1) dX11_keepers_80 rfl rfl ?_
      refine wp_ifne (tgt := 91) dX11_keepers_81 (by decide) ⟨fun q => ?_, fun q => ?_⟩
      · replace h := h.1 q
        refine wp_iload_n (i := 2) dX11_keepers_91 rfl rfl ?_
        exact wp_ireturn dX11_keepers_92 rfl ⟨_, rfl, h⟩
      · replace h := h.2 q
        refine wp_iload_n (i := 2) dX11_keepers_84 rfl rfl ?_
        refine wp_callSI (vs := [.int x2]) (rest := []) dX11_keepers_85 mS_X11_bits lm_X11_210 rfl rfl (Nat.le_of_ble_eq_true rfl) (CallI.mono h (fun y2 σ1 h => ?_))
        refine wp_goto (tgt := 92) dX11_keepers_88 (by decide) ?_
        exact wp_ireturn dX11_keepers_92 rfl ⟨_, rfl, h⟩
    · replace h := h.2 q
      refine wp_aload_n (i := 0) dX11_keepers_71 rfl rfl ?_
      refine wp_ldc lc_X11_209 dX11_keepers_72 ?_
      refine wp_callVI (vs := [.int (-1000000002 : Int32)]) (rest := []) dX11_keepers_74 mV_X11_error lm_X11_86 hR_0 rfl rfl rfl (Nat.le_of_ble_eq_true rfl) (CallI.mono h (fun y4 σ3 h => ?_))
      refine wp_goto (tgt := 92) dX11_keepers_77 (by decide) ?_
      exact wp_ireturn dX11_keepers_92 rfl ⟨_, rfl, h⟩
  · replace h := h.2 q
    refine wp_iload_n (i := 2) dX11_keepers_32 rfl rfl ?_
    refine wp_iflt (tgt := 47) dX11_keepers_33 (by decide) ⟨fun q => ?_, fun q => ?_⟩
    · replace h := h.1 q
      refine wp_aload_n (i := 0) dX11_keepers_47 rfl rfl ?_
      refine wp_iload_n (i := 3) dX11_keepers_48 rfl rfl ?_
      refine wp_callVI (vs := [.int x3]) (rest := []) dX11_keepers_49 mV_X11_doKeep lm_X11_213 hR_0 rfl rfl rfl (Nat.le_of_ble_eq_true rfl) (CallI.mono h (fun y6 σ5 h => ?_))
      refine wp_ifeq (tgt := 59) dX11_keepers_52 (by decide) ⟨fun q => ?_, fun q => ?_⟩
      · replace h := h.1 q
        refine wp_iload_n (i := 2) dX11_keepers_59 rfl rfl ?_
        refine wp_istore_n (i := 2) (Lo' := [some (.ref 0), some (.int x1), some (.int x2), some (.int x3)]) dX11_keepers_60 rfl (by decide) rfl rfl ?_
        refine wp_iinc (i := 3) (v := x3 + nI 1) (Lo' := [some (.ref 0), some (.int x1), some (.int x2), some (.int (x3 + nI 1))]) dX11_keepers_61 rfl (by rfl) (by decide) rfl rfl ?_
        refine wp_goto (tgt := 20) dX11_keepers_64 (by decide) ?_
        exact wp_mask [true, true, true, true] h
      · replace h := h.2 q
        refine wp_iload_n (i := 3) dX11_keepers_55 rfl rfl ?_
        refine wp_goto (tgt := 60) dX11_keepers_56 (by decide) ?_
        refine wp_istore_n (i := 2) (Lo' := [some (.ref 0), some (.int x1), some (.int x3), some (.int x3)]) dX11_keepers_60 rfl (by decide) rfl rfl ?_
        refine wp_iinc (i := 3) (v := x3 + nI 1) (Lo' := [some (.ref 0), some (.int x1), some (.int x3), some (.int (x3 + nI 1))]) dX11_keepers_61 rfl (by rfl) (by decide) rfl rfl ?_
        refine wp_goto (tgt := 20) dX11_keepers_64 (by decide) ?_
        exact wp_mask [true, true, true, true] h
    · replace h := h.2 q
      refine wp_iload_n (i := 3) dX11_keepers_36 rfl rfl ?_
      refine wp_callSI (vs := [.int x3]) (rest := []) dX11_keepers_37 mS_X11_bits lm_X11_210 rfl rfl (Nat.le_of_ble_eq_true rfl) (CallI.mono h (fun y8 σ7 h => ?_))
      refine wp_iload_n (i := 2) dX11_keepers_40 rfl rfl ?_
      refine wp_callSI (vs := [.int x2]) (rest := [.int y8]) dX11_keepers_41 mS_X11_bits lm_X11_210 rfl rfl (Nat.le_of_ble_eq_true rfl) (CallI.mono h (fun y10 σ9 h => ?_))
      refine wp_icmpge (tgt := 61) dX11_keepers_44 (by decide) ⟨fun q => ?_, fun q => ?_⟩
      · replace h := h.1 q
        refine wp_iinc (i := 3) (v := x3 + nI 1) (Lo' := [some (.ref 0), some (.int x1), some (.int x2), some (.int (x3 + nI 1))]) dX11_keepers_61 rfl (by rfl) (by decide) rfl rfl ?_
        refine wp_goto (tgt := 20) dX11_keepers_64 (by decide) ?_
        exact wp_mask [true, true, true, true] h
      · replace h := h.2 q
        refine wp_aload_n (i := 0) dX11_keepers_47 rfl rfl ?_
        refine wp_iload_n (i := 3) dX11_keepers_48 rfl rfl ?_
        refine wp_callVI (vs := [.int x3]) (rest := []) dX11_keepers_49 mV_X11_doKeep lm_X11_213 hR_0 rfl rfl rfl (Nat.le_of_ble_eq_true rfl) (CallI.mono h (fun y12 σ11 h => ?_))
        refine wp_ifeq (tgt := 59) dX11_keepers_52 (by decide) ⟨fun q => ?_, fun q => ?_⟩
        · replace h := h.1 q
          refine wp_iload_n (i := 2) dX11_keepers_59 rfl rfl ?_
          refine wp_istore_n (i := 2) (Lo' := [some (.ref 0), some (.int x1), some (.int x2), some (.int x3)]) dX11_keepers_60 rfl (by decide) rfl rfl ?_
          refine wp_iinc (i := 3) (v := x3 + nI 1) (Lo' := [some (.ref 0), some (.int x1), some (.int x2), some (.int (x3 + nI 1))]) dX11_keepers_61 rfl (by rfl) (by decide) rfl rfl ?_
          refine wp_goto (tgt := 20) dX11_keepers_64 (by decide) ?_
          exact wp_mask [true, true, true, true] h
        · replace h := h.2 q
          refine wp_iload_n (i := 3) dX11_keepers_55 rfl rfl ?_
          refine wp_goto (tgt := 60) dX11_keepers_56 (by decide) ?_
          refine wp_istore_n (i := 2) (Lo' := [some (.ref 0), some (.int x1), some (.int x3), some (.int x3)]) dX11_keepers_60 rfl (by decide) rfl rfl ?_
          refine wp_iinc (i := 3) (v := x3 + nI 1) (Lo' := [some (.ref 0), some (.int x1), some (.int x3), some (.int (x3 + nI 1))]) dX11_keepers_61 rfl (by rfl) (by decide) rfl rfl ?_
          refine wp_goto (tgt := 20) dX11_keepers_64 (by decide) ?_
          exact wp_mask [true, true, true, true] h
set_option maxRecDepth 20000 in
set_option maxHeartbeats 2000000 in
theorem vc_Md_keepers {E : KE} {d : Nat} {x1 : Int32} {σ : Sg} {K : Int32 → Sg → Prop} (h : CallI E shR d mX11_in [.int x1, .int (nI 0), .int (nI 1)] σ (fun y2 σ1 => (¬ y2 = 0 → WP E shR mX11_keepers (d + 1) 20 [some (.ref 0), some (.int x1), some (.int (-1 : Int32)), some (.int (nI 0))] [] σ1 (k_qi K)) ∧ (y2 = 0 → CallI E shR d mX11_error [.ref 0, .int (-1000000001 : Int32)] σ1 (fun y4 σ3 => K y4 σ3)))) : CallI E shR (d + 1) mX11_keepers [.ref 0, .int x1] σ K := by
  refine wp_enter (Lo := [some (.ref 0), some (.int x1), none, none]) mp_X11_keepers (Nat.le_of_ble_eq_true rfl) rfl ?_
  refine wp_iload_n (i := 1) dX11_keepers_0 rfl rfl ?_
  refine wp_iconst (v := nI 0) dX11_keepers_1 rfl ?_
  refine wp_iconst (v := nI 1) dX11_keepers_2 rfl ?_
  refine wp_callSI (vs := [.int x1, .int (nI 0), .int (nI 1)]) (rest := []) dX11_keepers_3 mS_X11_in lm_X11_53 rfl rfl (Nat.le_of_ble_eq_true rfl) (CallI.mono h (fun y2 σ1 h => ?_))
  refine wp_ifne (tgt := 16) dX11_keepers_6 (by decide) ⟨fun q => ?_, fun q => ?_⟩
  · replace h := h.1 q
    refine wp_iconst (v := (-1 : Int32)) dX11_keepers_16 rfl ?_
    refine wp_istore_n (i := 2) (Lo' := [some (.ref 0), some (.int x1), some (.int (-1 : Int32)), none]) dX11_keepers_17 rfl (by decide) rfl rfl ?_
    refine wp_iconst (v := nI 0) dX11_keepers_18 rfl ?_
    refine wp_istore_n (i := 3) (Lo' := [some (.ref 0), some (.int x1), some (.int (-1 : Int32)), some (.int (nI 0))]) dX11_keepers_19 rfl (by decide) rfl rfl ?_
    exact wp_mask [true, true, true, true] h
  · replace h := h.2 q
    refine wp_aload_n (i := 0) dX11_keepers_9 rfl rfl ?_
    refine wp_ldc lc_X11_85 dX11_keepers_10 ?_
    refine wp_callVI (vs := [.int (-1000000001 : Int32)]) (rest := []) dX11_keepers_12 mV_X11_error lm_X11_86 hR_0 rfl rfl rfl (Nat.le_of_ble_eq_true rfl) (CallI.mono h (fun y4 σ3 h => ?_))
    exact wp_ireturn dX11_keepers_15 rfl ⟨_, rfl, h⟩
set_option maxRecDepth 20000 in
set_option maxHeartbeats 2000000 in
theorem vb_Md_costing_6 {E : KE} {d : Nat} {x1 : Int32} {x2 : Int32} {x3 : Int32} {x4 : Int32} {x5 : Int32} {σ : Sg} {K : Int32 → Sg → Prop} (h : ((nI 28) ≤ x5 → K x4 σ) ∧ (¬ (nI 28) ≤ x5 → CallI E shR d mX11_of [.ref 0, .int x1, .int ((nI 4) + x5)] σ (fun y2 σ1 => (y2 ≤ 0 → ((nI 0) = 0 → WP E shR mX11_costing (d + 1) 6 [some (.ref 0), some (.int x1), some (.int x2), some (.int x3), some (.int (x4 + (nI 0))), some (.int (x5 + nI 1)), none] [] σ1 (k_qi K)) ∧ (¬ (nI 0) = 0 → CallI E shR d mX11_priceOf [.ref 0, .int x1, .int x5] σ1 (fun y4 σ3 => (¬ y4 = x3 → WP E shR mX11_costing (d + 1) 6 [some (.ref 0), some (.int x1), some (.int x2), some (.int x3), some (.int (x4 + (nI 0))), some (.int (x5 + nI 1)), none] [] σ3 (k_qi K)) ∧ (y4 = x3 → WP E shR mX11_costing (d + 1) 6 [some (.ref 0), some (.int x1), some (.int x2), some (.int x3), some (.int (x4 + (nI 1))), some (.int (x5 + nI 1)), none] [] σ3 (k_qi K))))) ∧ (¬ y2 ≤ 0 → CallI E shR d mX11_of [.ref 0, .int x2, .int ((nI 4) + x5)] σ1 (fun y6 σ5 => ((nI 9) ≤ y6 → ((nI 0) = 0 → WP E shR mX11_costing (d + 1) 6 [some (.ref 0), some (.int x1), some (.int x2), some (.int x3), some (.int (x4 + (nI 0))), some (.int (x5 + nI 1)), none] [] σ5 (k_qi K)) ∧ (¬ (nI 0) = 0 → CallI E shR d mX11_priceOf [.ref 0, .int x1, .int x5] σ5 (fun y8 σ7 => (¬ y8 = x3 → WP E shR mX11_costing (d + 1) 6 [some (.ref 0), some (.int x1), some (.int x2), some (.int x3), some (.int (x4 + (nI 0))), some (.int (x5 + nI 1)), none] [] σ7 (k_qi K)) ∧ (y8 = x3 → WP E shR mX11_costing (d + 1) 6 [some (.ref 0), some (.int x1), some (.int x2), some (.int x3), some (.int (x4 + (nI 1))), some (.int (x5 + nI 1)), none] [] σ7 (k_qi K))))) ∧ (¬ (nI 9) ≤ y6 → ((nI 1) = 0 → WP E shR mX11_costing (d + 1) 6 [some (.ref 0), some (.int x1), some (.int x2), some (.int x3), some (.int (x4 + (nI 0))), some (.int (x5 + nI 1)), none] [] σ5 (k_qi K)) ∧ (¬ (nI 1) = 0 → CallI E shR d mX11_priceOf [.ref 0, .int x1, .int x5] σ5 (fun y10 σ9 => (¬ y10 = x3 → WP E shR mX11_costing (d + 1) 6 [some (.ref 0), some (.int x1), some (.int x2), some (.int x3), some (.int (x4 + (nI 0))), some (.int (x5 + nI 1)), none] [] σ9 (k_qi K)) ∧ (y10 = x3 → WP E shR mX11_costing (d + 1) 6 [some (.ref 0), some (.int x1), some (.int x2), some (.int x3), some (.int (x4 + (nI 1))), some (.int (x5 + nI 1)), none] [] σ9 (k_qi K)))))))))) : WP E shR mX11_costing (d + 1) 6 [some (.ref 0), some (.int x1), some (.int x2), some (.int x3), some (.int x4), some (.int x5), none] [] σ (k_qi K) := by
  refine wp_iload (i := 5) dX11_costing_6 rfl ?_
  refine wp_bipush (v := nI 28) dX11_costing_8 (by decide) ?_
  refine wp_icmpge (tgt := 78) dX11_costing_10 (by decide) ⟨fun q => ?_, fun q => ?_⟩
  · replace h := h.1 q
    refine wp_iload (i := 4) dX11_costing_78 rfl ?_
    exact wp_ireturn dX11_costing_80 rfl ⟨_, rfl, h⟩
  · replace h := h.2 q
    refine wp_aload_n (i := 0) dX11_costing_13 rfl rfl ?_
    refine wp_iload_n (i := 1) dX11_costing_14 rfl rfl ?_
    refine wp_iconst (v := nI 4) dX11_costing_15 rfl ?_
    refine wp_iload (i := 5) dX11_costing_16 rfl ?_
    refine wp_iadd dX11_costing_18 ?_
    refine wp_callVI (vs := [.int x1, .int ((nI 4) + x5)]) (rest := []) dX11_costing_19 mV_X11_of lm_X11_65 hR_0 rfl rfl rfl (Nat.le_of_ble_eq_true rfl) (CallI.mono h (fun y2 σ1 h => ?_))
    refine wp_ifle (tgt := 43) dX11_costing_22 (by decide) ⟨fun q => ?_, fun q => ?_⟩
    · replace h := h.1 q
      refine wp_iconst (v := nI 0) dX11_costing_43 rfl ?_
      refine wp_istore (i := 6) (Lo' := [some (.ref 0), some (.int x1), some (.int x2), some (.int x3), some (.int x4), some (.int x5), some (.int (nI 0))]) dX11_costing_44 (by decide) rfl rfl ?_
      refine wp_iload (i := 4) dX11_costing_46 rfl ?_
      refine wp_iload (i := 6) dX11_costing_48 rfl ?_
      refine wp_ifeq (tgt := 68) dX11_costing_50 (by decide) ⟨fun q => ?_, fun q => ?_⟩
      · replace h := h.1 q
        refine wp_iconst (v := nI 0) dX11_costing_68 rfl ?_
        refine wp_iadd dX11_costing_69 ?_
        refine wp_istore (i := 4) (Lo' := [some (.ref 0), some (.int x1), some (.int x2), some (.int x3), some (.int (x4 + (nI 0))), some (.int x5), some (.int (nI 0))]) dX11_costing_70 (by decide) rfl rfl ?_
        refine wp_iinc (i := 5) (v := x5 + nI 1) (Lo' := [some (.ref 0), some (.int x1), some (.int x2), some (.int x3), some (.int (x4 + (nI 0))), some (.int (x5 + nI 1)), some (.int (nI 0))]) dX11_costing_72 rfl (by rfl) (by decide) rfl rfl ?_
        refine wp_goto (tgt := 6) dX11_costing_75 (by decide) ?_
        exact wp_mask [true, true, true, true, true, true, false] h
      · replace h := h.2 q
        refine wp_aload_n (i := 0) dX11_costing_53 rfl rfl ?_
        refine wp_iload_n (i := 1) dX11_costing_54 rfl rfl ?_
        refine wp_iload (i := 5) dX11_costing_55 rfl ?_
        refine wp_callVI (vs := [.int x1, .int x5]) (rest := [.int x4]) dX11_costing_57 mV_X11_priceOf lm_X11_106 hR_0 rfl rfl rfl (Nat.le_of_ble_eq_true rfl) (CallI.mono h (fun y4 σ3 h => ?_))
        refine wp_iload_n (i := 3) dX11_costing_60 rfl rfl ?_
        refine wp_icmpne (tgt := 68) dX11_costing_61 (by decide) ⟨fun q => ?_, fun q => ?_⟩
        · replace h := h.1 q
          refine wp_iconst (v := nI 0) dX11_costing_68 rfl ?_
          refine wp_iadd dX11_costing_69 ?_
          refine wp_istore (i := 4) (Lo' := [some (.ref 0), some (.int x1), some (.int x2), some (.int x3), some (.int (x4 + (nI 0))), some (.int x5), some (.int (nI 0))]) dX11_costing_70 (by decide) rfl rfl ?_
          refine wp_iinc (i := 5) (v := x5 + nI 1) (Lo' := [some (.ref 0), some (.int x1), some (.int x2), some (.int x3), some (.int (x4 + (nI 0))), some (.int (x5 + nI 1)), some (.int (nI 0))]) dX11_costing_72 rfl (by rfl) (by decide) rfl rfl ?_
          refine wp_goto (tgt := 6) dX11_costing_75 (by decide) ?_
          exact wp_mask [true, true, true, true, true, true, false] h
        · replace h := h.2 q
          refine wp_iconst (v := nI 1) dX11_costing_64 rfl ?_
          refine wp_goto (tgt := 69) dX11_costing_65 (by decide) ?_
          refine wp_iadd dX11_costing_69 ?_
          refine wp_istore (i := 4) (Lo' := [some (.ref 0), some (.int x1), some (.int x2), some (.int x3), some (.int (x4 + (nI 1))), some (.int x5), some (.int (nI 0))]) dX11_costing_70 (by decide) rfl rfl ?_
          refine wp_iinc (i := 5) (v := x5 + nI 1) (Lo' := [some (.ref 0), some (.int x1), some (.int x2), some (.int x3), some (.int (x4 + (nI 1))), some (.int (x5 + nI 1)), some (.int (nI 0))]) dX11_costing_72 rfl (by rfl) (by decide) rfl rfl ?_
          refine wp_goto (tgt := 6) dX11_costing_75 (by decide) ?_
          exact wp_mask [true, true, true, true, true, true, false] h
    · replace h := h.2 q
      refine wp_aload_n (i := 0) dX11_costing_25 rfl rfl ?_
      refine wp_iload_n (i := 2) dX11_costing_26 rfl rfl ?_
      refine wp_iconst (v := nI 4) dX11_costing_27 rfl ?_
      refine wp_iload (i := 5) dX11_costing_28 rfl ?_
      refine wp_iadd dX11_costing_30 ?_
      refine wp_callVI (vs := [.int x2, .int ((nI 4) + x5)]) (rest := []) dX11_costing_31 mV_X11_of lm_X11_65 hR_0 rfl rfl rfl (Nat.le_of_ble_eq_true rfl) (CallI.mono h (fun y6 σ5 h => ?_))
      refine wp_bipush (v := nI 9) dX11_costing_34 (by decide) ?_
      refine wp_icmpge (tgt := 43) dX11_costing_36 (by decide) ⟨fun q => ?_, fun q => ?_⟩
      · replace h := h.1 q
        refine wp_iconst (v := nI 0) dX11_costing_43 rfl ?_
        refine wp_istore (i := 6) (Lo' := [some (.ref 0), some (.int x1), some (.int x2), some (.int x3), some (.int x4), some (.int x5), some (.int (nI 0))]) dX11_costing_44 (by decide) rfl rfl ?_
        refine wp_iload (i := 4) dX11_costing_46 rfl ?_
        refine wp_iload (i := 6) dX11_costing_48 rfl ?_
        refine wp_ifeq (tgt := 68) dX11_costing_50 (by decide) ⟨fun q => ?_, fun q => ?_⟩
        · replace h := h.1 q
          refine wp_iconst (v := nI 0) dX11_costing_68 rfl ?_
          refine wp_iadd dX11_costing_69 ?_
          refine wp_istore (i := 4) (Lo' := [some (.ref 0), some (.int x1), some (.int x2), some (.int x3), some (.int (x4 + (nI 0))), some (.int x5), some (.int (nI 0))]) dX11_costing_70 (by decide) rfl rfl ?_
          refine wp_iinc (i := 5) (v := x5 + nI 1) (Lo' := [some (.ref 0), some (.int x1), some (.int x2), some (.int x3), some (.int (x4 + (nI 0))), some (.int (x5 + nI 1)), some (.int (nI 0))]) dX11_costing_72 rfl (by rfl) (by decide) rfl rfl ?_
          refine wp_goto (tgt := 6) dX11_costing_75 (by decide) ?_
          exact wp_mask [true, true, true, true, true, true, false] h
        · replace h := h.2 q
          refine wp_aload_n (i := 0) dX11_costing_53 rfl rfl ?_
          refine wp_iload_n (i := 1) dX11_costing_54 rfl rfl ?_
          refine wp_iload (i := 5) dX11_costing_55 rfl ?_
          refine wp_callVI (vs := [.int x1, .int x5]) (rest := [.int x4]) dX11_costing_57 mV_X11_priceOf lm_X11_106 hR_0 rfl rfl rfl (Nat.le_of_ble_eq_true rfl) (CallI.mono h (fun y8 σ7 h => ?_))
          refine wp_iload_n (i := 3) dX11_costing_60 rfl rfl ?_
          refine wp_icmpne (tgt := 68) dX11_costing_61 (by decide) ⟨fun q => ?_, fun q => ?_⟩
          · replace h := h.1 q
            refine wp_iconst (v := nI 0) dX11_costing_68 rfl ?_
            refine wp_iadd dX11_costing_69 ?_
            refine wp_istore (i := 4) (Lo' := [some (.ref 0), some (.int x1), some (.int x2), some (.int x3), some (.int (x4 + (nI 0))), some (.int x5), some (.int (nI 0))]) dX11_costing_70 (by decide) rfl rfl ?_
            refine wp_iinc (i := 5) (v := x5 + nI 1) (Lo' := [some (.ref 0), some (.int x1), some (.int x2), some (.int x3), some (.int (x4 + (nI 0))), some (.int (x5 + nI 1)), some (.int (nI 0))]) dX11_costing_72 rfl (by rfl) (by decide) rfl rfl ?_
            refine wp_goto (tgt := 6) dX11_costing_75 (by decide) ?_
            exact wp_mask [true, true, true, true, true, true, false] h
          · replace h := h.2 q
            refine wp_iconst (v := nI 1) dX11_costing_64 rfl ?_
            refine wp_goto (tgt := 69) dX11_costing_65 (by decide) ?_
            refine wp_iadd dX11_costing_69 ?_
            refine wp_istore (i := 4) (Lo' := [some (.ref 0), some (.int x1), some (.int x2), some (.int x3), some (.int (x4 + (nI 1))), some (.int x5), some (.int (nI 0))]) dX11_costing_70 (by decide) rfl rfl ?_
            refine wp_iinc (i := 5) (v := x5 + nI 1) (Lo' := [some (.ref 0), some (.int x1), some (.int x2), some (.int x3), some (.int (x4 + (nI 1))), some (.int (x5 + nI 1)), some (.int (nI 0))]) dX11_costing_72 rfl (by rfl) (by decide) rfl rfl ?_
            refine wp_goto (tgt := 6) dX11_costing_75 (by decide) ?_
            exact wp_mask [true, true, true, true, true, true, false] h
      · replace h := h.2 q
        refine wp_iconst (v := nI 1) dX11_costing_39 rfl ?_
        refine wp_goto (tgt := 44) dX11_costing_40 (by decide) ?_
        refine wp_istore (i := 6) (Lo' := [some (.ref 0), some (.int x1), some (.int x2), some (.int x3), some (.int x4), some (.int x5), some (.int (nI 1))]) dX11_costing_44 (by decide) rfl rfl ?_
        refine wp_iload (i := 4) dX11_costing_46 rfl ?_
        refine wp_iload (i := 6) dX11_costing_48 rfl ?_
        refine wp_ifeq (tgt := 68) dX11_costing_50 (by decide) ⟨fun q => ?_, fun q => ?_⟩
        · replace h := h.1 q
          refine wp_iconst (v := nI 0) dX11_costing_68 rfl ?_
          refine wp_iadd dX11_costing_69 ?_
          refine wp_istore (i := 4) (Lo' := [some (.ref 0), some (.int x1), some (.int x2), some (.int x3), some (.int (x4 + (nI 0))), some (.int x5), some (.int (nI 1))]) dX11_costing_70 (by decide) rfl rfl ?_
          refine wp_iinc (i := 5) (v := x5 + nI 1) (Lo' := [some (.ref 0), some (.int x1), some (.int x2), some (.int x3), some (.int (x4 + (nI 0))), some (.int (x5 + nI 1)), some (.int (nI 1))]) dX11_costing_72 rfl (by rfl) (by decide) rfl rfl ?_
          refine wp_goto (tgt := 6) dX11_costing_75 (by decide) ?_
          exact wp_mask [true, true, true, true, true, true, false] h
        · replace h := h.2 q
          refine wp_aload_n (i := 0) dX11_costing_53 rfl rfl ?_
          refine wp_iload_n (i := 1) dX11_costing_54 rfl rfl ?_
          refine wp_iload (i := 5) dX11_costing_55 rfl ?_
          refine wp_callVI (vs := [.int x1, .int x5]) (rest := [.int x4]) dX11_costing_57 mV_X11_priceOf lm_X11_106 hR_0 rfl rfl rfl (Nat.le_of_ble_eq_true rfl) (CallI.mono h (fun y10 σ9 h => ?_))
          refine wp_iload_n (i := 3) dX11_costing_60 rfl rfl ?_
          refine wp_icmpne (tgt := 68) dX11_costing_61 (by decide) ⟨fun q => ?_, fun q => ?_⟩
          · replace h := h.1 q
            refine wp_iconst (v := nI 0) dX11_costing_68 rfl ?_
            refine wp_iadd dX11_costing_69 ?_
            refine wp_istore (i := 4) (Lo' := [some (.ref 0), some (.int x1), some (.int x2), some (.int x3), some (.int (x4 + (nI 0))), some (.int x5), some (.int (nI 1))]) dX11_costing_70 (by decide) rfl rfl ?_
            refine wp_iinc (i := 5) (v := x5 + nI 1) (Lo' := [some (.ref 0), some (.int x1), some (.int x2), some (.int x3), some (.int (x4 + (nI 0))), some (.int (x5 + nI 1)), some (.int (nI 1))]) dX11_costing_72 rfl (by rfl) (by decide) rfl rfl ?_
            refine wp_goto (tgt := 6) dX11_costing_75 (by decide) ?_
            exact wp_mask [true, true, true, true, true, true, false] h
          · replace h := h.2 q
            refine wp_iconst (v := nI 1) dX11_costing_64 rfl ?_
            refine wp_goto (tgt := 69) dX11_costing_65 (by decide) ?_
            refine wp_iadd dX11_costing_69 ?_
            refine wp_istore (i := 4) (Lo' := [some (.ref 0), some (.int x1), some (.int x2), some (.int x3), some (.int (x4 + (nI 1))), some (.int x5), some (.int (nI 1))]) dX11_costing_70 (by decide) rfl rfl ?_
            refine wp_iinc (i := 5) (v := x5 + nI 1) (Lo' := [some (.ref 0), some (.int x1), some (.int x2), some (.int x3), some (.int (x4 + (nI 1))), some (.int (x5 + nI 1)), some (.int (nI 1))]) dX11_costing_72 rfl (by rfl) (by decide) rfl rfl ?_
            refine wp_goto (tgt := 6) dX11_costing_75 (by decide) ?_
            exact wp_mask [true, true, true, true, true, true, false] h
set_option maxRecDepth 20000 in
set_option maxHeartbeats 2000000 in
theorem vc_Md_costing {E : KE} {d : Nat} {x1 : Int32} {x2 : Int32} {x3 : Int32} {σ : Sg} {K : Int32 → Sg → Prop} (h : WP E shR mX11_costing (d + 1) 6 [some (.ref 0), some (.int x1), some (.int x2), some (.int x3), some (.int (nI 0)), some (.int (nI 0)), none] [] σ (k_qi K)) : CallI E shR (d + 1) mX11_costing [.ref 0, .int x1, .int x2, .int x3] σ K := by
  refine wp_enter (Lo := [some (.ref 0), some (.int x1), some (.int x2), some (.int x3), none, none, none]) mp_X11_costing (Nat.le_of_ble_eq_true rfl) rfl ?_
  refine wp_iconst (v := nI 0) dX11_costing_0 rfl ?_
  refine wp_istore (i := 4) (Lo' := [some (.ref 0), some (.int x1), some (.int x2), some (.int x3), some (.int (nI 0)), none, none]) dX11_costing_1 (by decide) rfl rfl ?_
  refine wp_iconst (v := nI 0) dX11_costing_3 rfl ?_
  refine wp_istore (i := 5) (Lo' := [some (.ref 0), some (.int x1), some (.int x2), some (.int x3), some (.int (nI 0)), some (.int (nI 0)), none]) dX11_costing_4 (by decide) rfl rfl ?_
  exact wp_mask [true, true, true, true, true, true, false] h
set_option maxRecDepth 20000 in
set_option maxHeartbeats 2000000 in
theorem vb_Md_buys_29 {E : KE} {d : Nat} {x1 : Int32} {x2 : Int32} {x3 : Int32} {x4 : Int32} {x5 : Int32} {σ : Sg} {K : Int32 → Sg → Prop} (h : ((nI 999) < x5 → K x4 σ) ∧ (¬ (nI 999) < x5 → (x3 < x5 → K x4 σ) ∧ (¬ x3 < x5 → CallI E shR d mX11_costing [.ref 0, .int x1, .int x2, .int x5] σ (fun y2 σ1 => (¬ x5 = 0 → ¬ x5 = 0 ∧ (((x3 / x5) ≤ y2 → (y2 ≤ (x3 / x5) → WP E shR mX11_buys (d + 1) 29 [some (.ref 0), some (.int x1), some (.int x2), some (.int (x3 - ((x3 / x5) * x5))), some (.int (x4 + (x3 / x5))), some (.int (x5 + nI 1)), none, none, none] [] σ1 (k_qi K)) ∧ (¬ y2 ≤ (x3 / x5) → K (x4 + (x3 / x5)) σ1)) ∧ (¬ (x3 / x5) ≤ y2 → (y2 ≤ y2 → WP E shR mX11_buys (d + 1) 29 [some (.ref 0), some (.int x1), some (.int x2), some (.int (x3 - (y2 * x5))), some (.int (x4 + y2)), some (.int (x5 + nI 1)), none, none, none] [] σ1 (k_qi K)) ∧ (¬ y2 ≤ y2 → K (x4 + y2) σ1)))) ∧ (x5 = 0 → (y2 ≤ y2 → (y2 ≤ y2 → WP E shR mX11_buys (d + 1) 29 [some (.ref 0), some (.int x1), some (.int x2), some (.int (x3 - (y2 * x5))), some (.int (x4 + y2)), some (.int (x5 + nI 1)), none, none, none] [] σ1 (k_qi K)) ∧ (¬ y2 ≤ y2 → K (x4 + y2) σ1)) ∧ (¬ y2 ≤ y2 → (y2 ≤ y2 → WP E shR mX11_buys (d + 1) 29 [some (.ref 0), some (.int x1), some (.int x2), some (.int (x3 - (y2 * x5))), some (.int (x4 + y2)), some (.int (x5 + nI 1)), none, none, none] [] σ1 (k_qi K)) ∧ (¬ y2 ≤ y2 → K (x4 + y2) σ1))))))) : WP E shR mX11_buys (d + 1) 29 [some (.ref 0), some (.int x1), some (.int x2), some (.int x3), some (.int x4), some (.int x5), none, none, none] [] σ (k_qi K) := by
  refine wp_iload (i := 5) dX11_buys_29 rfl ?_
  refine wp_sipush (v := nI 999) dX11_buys_31 (by decide) ?_
  refine wp_icmpgt (tgt := 116) dX11_buys_34 (by decide) ⟨fun q => ?_, fun q => ?_⟩
  · replace h := h.1 q
    refine wp_iload (i := 4) dX11_buys_116 rfl ?_
    exact wp_ireturn dX11_buys_118 rfl ⟨_, rfl, h⟩
  · replace h := h.2 q
    refine wp_iload (i := 5) dX11_buys_37 rfl ?_
    refine wp_iload_n (i := 3) dX11_buys_39 rfl rfl ?_
    refine wp_icmpgt (tgt := 116) dX11_buys_40 (by decide) ⟨fun q => ?_, fun q => ?_⟩
    · replace h := h.1 q
      refine wp_iload (i := 4) dX11_buys_116 rfl ?_
      exact wp_ireturn dX11_buys_118 rfl ⟨_, rfl, h⟩
    · replace h := h.2 q
      refine wp_aload_n (i := 0) dX11_buys_43 rfl rfl ?_
      refine wp_iload_n (i := 1) dX11_buys_44 rfl rfl ?_
      refine wp_iload_n (i := 2) dX11_buys_45 rfl rfl ?_
      refine wp_iload (i := 5) dX11_buys_46 rfl ?_
      refine wp_callVI (vs := [.int x1, .int x2, .int x5]) (rest := []) dX11_buys_48 mV_X11_costing lm_X11_216 hR_0 rfl rfl rfl (Nat.le_of_ble_eq_true rfl) (CallI.mono h (fun y2 σ1 h => ?_))
      refine wp_istore (i := 6) (Lo' := [some (.ref 0), some (.int x1), some (.int x2), some (.int x3), some (.int x4), some (.int x5), some (.int y2), none, none]) dX11_buys_51 (by decide) rfl rfl ?_
      refine wp_iload (i := 5) dX11_buys_53 rfl ?_
      refine wp_ifne (tgt := 63) dX11_buys_55 (by decide) ⟨fun q => ?_, fun q => ?_⟩
      · replace h := h.1 q
        refine wp_iload_n (i := 3) dX11_buys_63 rfl rfl ?_
        refine wp_iload (i := 5) dX11_buys_64 rfl ?_
        refine wp_idiv dX11_buys_66 ⟨h.1, ?_⟩
        replace h := h.2
        refine wp_istore (i := 7) (Lo' := [some (.ref 0), some (.int x1), some (.int x2), some (.int x3), some (.int x4), some (.int x5), some (.int y2), some (.int (x3 / x5)), none]) dX11_buys_67 (by decide) rfl rfl ?_
        refine wp_iload (i := 6) dX11_buys_69 rfl ?_
        refine wp_iload (i := 7) dX11_buys_71 rfl ?_
        refine wp_icmpge (tgt := 81) dX11_buys_73 (by decide) ⟨fun q => ?_, fun q => ?_⟩
        · replace h := h.1 q
          refine wp_iload (i := 7) dX11_buys_81 rfl ?_
          refine wp_istore (i := 8) (Lo' := [some (.ref 0), some (.int x1), some (.int x2), some (.int x3), some (.int x4), some (.int x5), some (.int y2), some (.int (x3 / x5)), some (.int (x3 / x5))]) dX11_buys_83 (by decide) rfl rfl ?_
          refine wp_iload (i := 4) dX11_buys_85 rfl ?_
          refine wp_iload (i := 8) dX11_buys_87 rfl ?_
          refine wp_iadd dX11_buys_89 ?_
          refine wp_istore (i := 4) (Lo' := [some (.ref 0), some (.int x1), some (.int x2), some (.int x3), some (.int (x4 + (x3 / x5))), some (.int x5), some (.int y2), some (.int (x3 / x5)), some (.int (x3 / x5))]) dX11_buys_90 (by decide) rfl rfl ?_
          refine wp_iload_n (i := 3) dX11_buys_92 rfl rfl ?_
          refine wp_iload (i := 8) dX11_buys_93 rfl ?_
          refine wp_iload (i := 5) dX11_buys_95 rfl ?_
          refine wp_imul dX11_buys_97 ?_
          refine wp_isub dX11_buys_98 ?_
          refine wp_istore_n (i := 3) (Lo' := [some (.ref 0), some (.int x1), some (.int x2), some (.int (x3 - ((x3 / x5) * x5))), some (.int (x4 + (x3 / x5))), some (.int x5), some (.int y2), some (.int (x3 / x5)), some (.int (x3 / x5))]) dX11_buys_99 rfl (by decide) rfl rfl ?_
          refine wp_iload (i := 8) dX11_buys_100 rfl ?_
          refine wp_iload (i := 6) dX11_buys_102 rfl ?_
          refine wp_icmpge (tgt := 110) dX11_buys_104 (by decide) ⟨fun q => ?_, fun q => ?_⟩
          · replace h := h.1 q
            refine wp_iinc (i := 5) (v := x5 + nI 1) (Lo' := [some (.ref 0), some (.int x1), some (.int x2), some (.int (x3 - ((x3 / x5) * x5))), some (.int (x4 + (x3 / x5))), some (.int (x5 + nI 1)), some (.int y2), some (.int (x3 / x5)), some (.int (x3 / x5))]) dX11_buys_110 rfl (by rfl) (by decide) rfl rfl ?_
            refine wp_goto (tgt := 29) dX11_buys_113 (by decide) ?_
            exact wp_mask [true, true, true, true, true, true, false, false, false] h
          · replace h := h.2 q
            refine wp_iload (i := 4) dX11_buys_107 rfl ?_
            exact wp_ireturn dX11_buys_109 rfl ⟨_, rfl, h⟩
        · replace h := h.2 q
          refine wp_iload (i := 6) dX11_buys_76 rfl ?_
          refine wp_goto (tgt := 83) dX11_buys_78 (by decide) ?_
          refine wp_istore (i := 8) (Lo' := [some (.ref 0), some (.int x1), some (.int x2), some (.int x3), some (.int x4), some (.int x5), some (.int y2), some (.int (x3 / x5)), some (.int y2)]) dX11_buys_83 (by decide) rfl rfl ?_
          refine wp_iload (i := 4) dX11_buys_85 rfl ?_
          refine wp_iload (i := 8) dX11_buys_87 rfl ?_
          refine wp_iadd dX11_buys_89 ?_
          refine wp_istore (i := 4) (Lo' := [some (.ref 0), some (.int x1), some (.int x2), some (.int x3), some (.int (x4 + y2)), some (.int x5), some (.int y2), some (.int (x3 / x5)), some (.int y2)]) dX11_buys_90 (by decide) rfl rfl ?_
          refine wp_iload_n (i := 3) dX11_buys_92 rfl rfl ?_
          refine wp_iload (i := 8) dX11_buys_93 rfl ?_
          refine wp_iload (i := 5) dX11_buys_95 rfl ?_
          refine wp_imul dX11_buys_97 ?_
          refine wp_isub dX11_buys_98 ?_
          refine wp_istore_n (i := 3) (Lo' := [some (.ref 0), some (.int x1), some (.int x2), some (.int (x3 - (y2 * x5))), some (.int (x4 + y2)), some (.int x5), some (.int y2), some (.int (x3 / x5)), some (.int y2)]) dX11_buys_99 rfl (by decide) rfl rfl ?_
          refine wp_iload (i := 8) dX11_buys_100 rfl ?_
          refine wp_iload (i := 6) dX11_buys_102 rfl ?_
          refine wp_icmpge (tgt := 110) dX11_buys_104 (by decide) ⟨fun q => ?_, fun q => ?_⟩
          · replace h := h.1 q
            refine wp_iinc (i := 5) (v := x5 + nI 1) (Lo' := [some (.ref 0), some (.int x1), some (.int x2), some (.int (x3 - (y2 * x5))), some (.int (x4 + y2)), some (.int (x5 + nI 1)), some (.int y2), some (.int (x3 / x5)), some (.int y2)]) dX11_buys_110 rfl (by rfl) (by decide) rfl rfl ?_
            refine wp_goto (tgt := 29) dX11_buys_113 (by decide) ?_
            exact wp_mask [true, true, true, true, true, true, false, false, false] h
          · replace h := h.2 q
            refine wp_iload (i := 4) dX11_buys_107 rfl ?_
            exact wp_ireturn dX11_buys_109 rfl ⟨_, rfl, h⟩
      · replace h := h.2 q
        refine wp_iload (i := 6) dX11_buys_58 rfl ?_
        refine wp_goto (tgt := 67) dX11_buys_60 (by decide) ?_
        refine wp_istore (i := 7) (Lo' := [some (.ref 0), some (.int x1), some (.int x2), some (.int x3), some (.int x4), some (.int x5), some (.int y2), some (.int y2), none]) dX11_buys_67 (by decide) rfl rfl ?_
        refine wp_iload (i := 6) dX11_buys_69 rfl ?_
        refine wp_iload (i := 7) dX11_buys_71 rfl ?_
        refine wp_icmpge (tgt := 81) dX11_buys_73 (by decide) ⟨fun q => ?_, fun q => ?_⟩
        · replace h := h.1 q
          refine wp_iload (i := 7) dX11_buys_81 rfl ?_
          refine wp_istore (i := 8) (Lo' := [some (.ref 0), some (.int x1), some (.int x2), some (.int x3), some (.int x4), some (.int x5), some (.int y2), some (.int y2), some (.int y2)]) dX11_buys_83 (by decide) rfl rfl ?_
          refine wp_iload (i := 4) dX11_buys_85 rfl ?_
          refine wp_iload (i := 8) dX11_buys_87 rfl ?_
          refine wp_iadd dX11_buys_89 ?_
          refine wp_istore (i := 4) (Lo' := [some (.ref 0), some (.int x1), some (.int x2), some (.int x3), some (.int (x4 + y2)), some (.int x5), some (.int y2), some (.int y2), some (.int y2)]) dX11_buys_90 (by decide) rfl rfl ?_
          refine wp_iload_n (i := 3) dX11_buys_92 rfl rfl ?_
          refine wp_iload (i := 8) dX11_buys_93 rfl ?_
          refine wp_iload (i := 5) dX11_buys_95 rfl ?_
          refine wp_imul dX11_buys_97 ?_
          refine wp_isub dX11_buys_98 ?_
          refine wp_istore_n (i := 3) (Lo' := [some (.ref 0), some (.int x1), some (.int x2), some (.int (x3 - (y2 * x5))), some (.int (x4 + y2)), some (.int x5), some (.int y2), some (.int y2), some (.int y2)]) dX11_buys_99 rfl (by decide) rfl rfl ?_
          refine wp_iload (i := 8) dX11_buys_100 rfl ?_
          refine wp_iload (i := 6) dX11_buys_102 rfl ?_
          refine wp_icmpge (tgt := 110) dX11_buys_104 (by decide) ⟨fun q => ?_, fun q => ?_⟩
          · replace h := h.1 q
            refine wp_iinc (i := 5) (v := x5 + nI 1) (Lo' := [some (.ref 0), some (.int x1), some (.int x2), some (.int (x3 - (y2 * x5))), some (.int (x4 + y2)), some (.int (x5 + nI 1)), some (.int y2), some (.int y2), some (.int y2)]) dX11_buys_110 rfl (by rfl) (by decide) rfl rfl ?_
            refine wp_goto (tgt := 29) dX11_buys_113 (by decide) ?_
            exact wp_mask [true, true, true, true, true, true, false, false, false] h
          · replace h := h.2 q
            refine wp_iload (i := 4) dX11_buys_107 rfl ?_
            exact wp_ireturn dX11_buys_109 rfl ⟨_, rfl, h⟩
        · replace h := h.2 q
          refine wp_iload (i := 6) dX11_buys_76 rfl ?_
          refine wp_goto (tgt := 83) dX11_buys_78 (by decide) ?_
          refine wp_istore (i := 8) (Lo' := [some (.ref 0), some (.int x1), some (.int x2), some (.int x3), some (.int x4), some (.int x5), some (.int y2), some (.int y2), some (.int y2)]) dX11_buys_83 (by decide) rfl rfl ?_
          refine wp_iload (i := 4) dX11_buys_85 rfl ?_
          refine wp_iload (i := 8) dX11_buys_87 rfl ?_
          refine wp_iadd dX11_buys_89 ?_
          refine wp_istore (i := 4) (Lo' := [some (.ref 0), some (.int x1), some (.int x2), some (.int x3), some (.int (x4 + y2)), some (.int x5), some (.int y2), some (.int y2), some (.int y2)]) dX11_buys_90 (by decide) rfl rfl ?_
          refine wp_iload_n (i := 3) dX11_buys_92 rfl rfl ?_
          refine wp_iload (i := 8) dX11_buys_93 rfl ?_
          refine wp_iload (i := 5) dX11_buys_95 rfl ?_
          refine wp_imul dX11_buys_97 ?_
          refine wp_isub dX11_buys_98 ?_
          refine wp_istore_n (i := 3) (Lo' := [some (.ref 0), some (.int x1), some (.int x2), some (.int (x3 - (y2 * x5))), some (.int (x4 + y2)), some (.int x5), some (.int y2), some (.int y2), some (.int y2)]) dX11_buys_99 rfl (by decide) rfl rfl ?_
          refine wp_iload (i := 8) dX11_buys_100 rfl ?_
          refine wp_iload (i := 6) dX11_buys_102 rfl ?_
          refine wp_icmpge (tgt := 110) dX11_buys_104 (by decide) ⟨fun q => ?_, fun q => ?_⟩
          · replace h := h.1 q
            refine wp_iinc (i := 5) (v := x5 + nI 1) (Lo' := [some (.ref 0), some (.int x1), some (.int x2), some (.int (x3 - (y2 * x5))), some (.int (x4 + y2)), some (.int (x5 + nI 1)), some (.int y2), some (.int y2), some (.int y2)]) dX11_buys_110 rfl (by rfl) (by decide) rfl rfl ?_
            refine wp_goto (tgt := 29) dX11_buys_113 (by decide) ?_
            exact wp_mask [true, true, true, true, true, true, false, false, false] h
          · replace h := h.2 q
            refine wp_iload (i := 4) dX11_buys_107 rfl ?_
            exact wp_ireturn dX11_buys_109 rfl ⟨_, rfl, h⟩
set_option maxRecDepth 20000 in
set_option maxHeartbeats 2000000 in
theorem vc_Md_buys {E : KE} {d : Nat} {x1 : Int32} {x2 : Int32} {σ : Sg} {K : Int32 → Sg → Prop} (h : CallI E shR d mX11_areTwo [.ref 0, .int x1, .int x2] σ (fun y2 σ1 => (¬ y2 = 0 → CallI E shR d mX11_of [.ref 0, .int x2, .int (nI 3)] σ1 (fun y4 σ3 => WP E shR mX11_buys (d + 1) 29 [some (.ref 0), some (.int x1), some (.int x2), some (.int y4), some (.int (nI 0)), some (.int (nI 0)), none, none, none] [] σ3 (k_qi K))) ∧ (y2 = 0 → CallI E shR d mX11_error [.ref 0, .int (-1000000001 : Int32)] σ1 (fun y6 σ5 => K y6 σ5)))) : CallI E shR (d + 1) mX11_buys [.ref 0, .int x1, .int x2] σ K := by
  refine wp_enter (Lo := [some (.ref 0), some (.int x1), some (.int x2), none, none, none, none, none, none]) mp_X11_buys (Nat.le_of_ble_eq_true rfl) rfl ?_
  refine wp_aload_n (i := 0) dX11_buys_0 rfl rfl ?_
  refine wp_iload_n (i := 1) dX11_buys_1 rfl rfl ?_
  refine wp_iload_n (i := 2) dX11_buys_2 rfl rfl ?_
  refine wp_callVI (vs := [.int x1, .int x2]) (rest := []) dX11_buys_3 mV_X11_areTwo lm_X11_109 hR_0 rfl rfl rfl (Nat.le_of_ble_eq_true rfl) (CallI.mono h (fun y2 σ1 h => ?_))
  refine wp_ifne (tgt := 16) dX11_buys_6 (by decide) ⟨fun q => ?_, fun q => ?_⟩
  · replace h := h.1 q
    refine wp_aload_n (i := 0) dX11_buys_16 rfl rfl ?_
    refine wp_iload_n (i := 2) dX11_buys_17 rfl rfl ?_
    refine wp_iconst (v := nI 3) dX11_buys_18 rfl ?_
    refine wp_callVI (vs := [.int x2, .int (nI 3)]) (rest := []) dX11_buys_19 mV_X11_of lm_X11_65 hR_0 rfl rfl rfl (Nat.le_of_ble_eq_true rfl) (CallI.mono h (fun y4 σ3 h => ?_))
    refine wp_istore_n (i := 3) (Lo' := [some (.ref 0), some (.int x1), some (.int x2), some (.int y4), none, none, none, none, none]) dX11_buys_22 rfl (by decide) rfl rfl ?_
    refine wp_iconst (v := nI 0) dX11_buys_23 rfl ?_
    refine wp_istore (i := 4) (Lo' := [some (.ref 0), some (.int x1), some (.int x2), some (.int y4), some (.int (nI 0)), none, none, none, none]) dX11_buys_24 (by decide) rfl rfl ?_
    refine wp_iconst (v := nI 0) dX11_buys_26 rfl ?_
    refine wp_istore (i := 5) (Lo' := [some (.ref 0), some (.int x1), some (.int x2), some (.int y4), some (.int (nI 0)), some (.int (nI 0)), none, none, none]) dX11_buys_27 (by decide) rfl rfl ?_
    exact wp_mask [true, true, true, true, true, true, false, false, false] h
  · replace h := h.2 q
    refine wp_aload_n (i := 0) dX11_buys_9 rfl rfl ?_
    refine wp_ldc lc_X11_85 dX11_buys_10 ?_
    refine wp_callVI (vs := [.int (-1000000001 : Int32)]) (rest := []) dX11_buys_12 mV_X11_error lm_X11_86 hR_0 rfl rfl rfl (Nat.le_of_ble_eq_true rfl) (CallI.mono h (fun y6 σ5 h => ?_))
    exact wp_ireturn dX11_buys_15 rfl ⟨_, rfl, h⟩
set_option maxRecDepth 20000 in
set_option maxHeartbeats 2000000 in
theorem vb_Md_notKept_4 {E : KE} {d : Nat} {x1 : Int32} {x2 : Int32} {σ : Sg} {K : Int32 → Sg → Prop} (h : vp_in (nI 3) 552 ∧ (((σ 1 (nI 3).toNatClampNeg) ≤ x2 → K x1 σ) ∧ (¬ (σ 1 (nI 3).toNatClampNeg) ≤ x2 → CallI E shR d mX11_isKept [.ref 0, .int x2] σ (fun y2 σ1 => (y2 = 0 → WP E shR mX11_notKept (d + 1) 4 [some (.ref 0), some (.int (x1 + (nI 1))), some (.int (x2 + nI 1))] [] σ1 (k_qi K)) ∧ (¬ y2 = 0 → WP E shR mX11_notKept (d + 1) 4 [some (.ref 0), some (.int (x1 + (nI 0))), some (.int (x2 + nI 1))] [] σ1 (k_qi K)))))) : WP E shR mX11_notKept (d + 1) 4 [some (.ref 0), some (.int x1), some (.int x2)] [] σ (k_qi K) := by
  refine wp_iload_n (i := 2) dX11_notKept_4 rfl rfl ?_
  refine wp_aload_n (i := 0) dX11_notKept_5 rfl rfl ?_
  refine wp_getR (t := 1) dX11_notKept_6 lf_X11_9 hR_0 rfl ?_
  refine wp_iconst (v := nI 3) dX11_notKept_9 rfl ?_
  refine wp_iald dX11_notKept_10 hR_1 ⟨h.1, ?_⟩
  replace h := h.2
  refine wp_icmpge (tgt := 36) dX11_notKept_11 (by decide) ⟨fun q => ?_, fun q => ?_⟩
  · replace h := h.1 q
    refine wp_iload_n (i := 1) dX11_notKept_36 rfl rfl ?_
    exact wp_ireturn dX11_notKept_37 rfl ⟨_, rfl, h⟩
  · replace h := h.2 q
    refine wp_iload_n (i := 1) dX11_notKept_14 rfl rfl ?_
    refine wp_aload_n (i := 0) dX11_notKept_15 rfl rfl ?_
    refine wp_iload_n (i := 2) dX11_notKept_16 rfl rfl ?_
    refine wp_callVI (vs := [.int x2]) (rest := [.int x1]) dX11_notKept_17 mV_X11_isKept lm_X11_79 hR_0 rfl rfl rfl (Nat.le_of_ble_eq_true rfl) (CallI.mono h (fun y2 σ1 h => ?_))
    refine wp_ifeq (tgt := 27) dX11_notKept_20 (by decide) ⟨fun q => ?_, fun q => ?_⟩
    · replace h := h.1 q
      refine wp_iconst (v := nI 1) dX11_notKept_27 rfl ?_
      refine wp_iadd dX11_notKept_28 ?_
      refine wp_istore_n (i := 1) (Lo' := [some (.ref 0), some (.int (x1 + (nI 1))), some (.int x2)]) dX11_notKept_29 rfl (by decide) rfl rfl ?_
      refine wp_iinc (i := 2) (v := x2 + nI 1) (Lo' := [some (.ref 0), some (.int (x1 + (nI 1))), some (.int (x2 + nI 1))]) dX11_notKept_30 rfl (by rfl) (by decide) rfl rfl ?_
      refine wp_goto (tgt := 4) dX11_notKept_33 (by decide) ?_
      exact wp_mask [true, true, true] h
    · replace h := h.2 q
      refine wp_iconst (v := nI 0) dX11_notKept_23 rfl ?_
      refine wp_goto (tgt := 28) dX11_notKept_24 (by decide) ?_
      refine wp_iadd dX11_notKept_28 ?_
      refine wp_istore_n (i := 1) (Lo' := [some (.ref 0), some (.int (x1 + (nI 0))), some (.int x2)]) dX11_notKept_29 rfl (by decide) rfl rfl ?_
      refine wp_iinc (i := 2) (v := x2 + nI 1) (Lo' := [some (.ref 0), some (.int (x1 + (nI 0))), some (.int (x2 + nI 1))]) dX11_notKept_30 rfl (by rfl) (by decide) rfl rfl ?_
      refine wp_goto (tgt := 4) dX11_notKept_33 (by decide) ?_
      exact wp_mask [true, true, true] h
set_option maxRecDepth 20000 in
set_option maxHeartbeats 2000000 in
theorem vc_Md_notKept {E : KE} {d : Nat} {σ : Sg} {K : Int32 → Sg → Prop} (h : WP E shR mX11_notKept (d + 1) 4 [some (.ref 0), some (.int (nI 0)), some (.int (nI 0))] [] σ (k_qi K)) : CallI E shR (d + 1) mX11_notKept [.ref 0] σ K := by
  refine wp_enter (Lo := [some (.ref 0), none, none]) mp_X11_notKept (Nat.le_of_ble_eq_true rfl) rfl ?_
  refine wp_iconst (v := nI 0) dX11_notKept_0 rfl ?_
  refine wp_istore_n (i := 1) (Lo' := [some (.ref 0), some (.int (nI 0)), none]) dX11_notKept_1 rfl (by decide) rfl rfl ?_
  refine wp_iconst (v := nI 0) dX11_notKept_2 rfl ?_
  refine wp_istore_n (i := 2) (Lo' := [some (.ref 0), some (.int (nI 0)), some (.int (nI 0))]) dX11_notKept_3 rfl (by decide) rfl rfl ?_
  exact wp_mask [true, true, true] h
set_option maxRecDepth 20000 in
set_option maxHeartbeats 2000000 in
theorem vb_Md_takes_60 {E : KE} {d : Nat} {x3 : Int32} {x7 : Int32} {σ : Sg} {K : Sg → Prop} (h : (x3 ≤ x7 → K σ) ∧ (¬ x3 ≤ x7 → vp_in x7 3 ∧ (vp_in x7 3 ∧ (∀ σ1, σ1 = k_put σ 13 (upd (σ 13) x7.toNatClampNeg (σ 12 x7.toNatClampNeg)) → WP E shR mX11_takes (d + 1) 60 [some (.ref 0), none, none, some (.int x3), none, none, none, some (.int (x7 + nI 1)), none] [] σ1 (k_qn K))))) : WP E shR mX11_takes (d + 1) 60 [some (.ref 0), none, none, some (.int x3), none, none, none, some (.int x7), none] [] σ (k_qn K) := by
  refine wp_iload (i := 7) dX11_takes_60 rfl ?_
  refine wp_iload_n (i := 3) dX11_takes_62 rfl rfl ?_
  refine wp_icmpge (tgt := 86) dX11_takes_63 (by decide) ⟨fun q => ?_, fun q => ?_⟩
  · replace h := h.1 q
    exact wp_return dX11_takes_86 rfl ⟨rfl, h⟩
  · replace h := h.2 q
    refine wp_aload_n (i := 0) dX11_takes_66 rfl rfl ?_
    refine wp_getR (t := 13) dX11_takes_67 lf_X11_46 hR_0 rfl ?_
    refine wp_iload (i := 7) dX11_takes_70 rfl ?_
    refine wp_aload_n (i := 0) dX11_takes_72 rfl rfl ?_
    refine wp_getR (t := 12) dX11_takes_73 lf_X11_43 hR_0 rfl ?_
    refine wp_iload (i := 7) dX11_takes_76 rfl ?_
    refine wp_iald dX11_takes_78 hR_12 ⟨h.1, ?_⟩
    replace h := h.2
    refine wp_iast dX11_takes_79 hR_13 ⟨h.1, ?_⟩
    refine wp_nm (fun σ1 e2 => ?_)
    replace h := h.2 σ1 e2
    refine wp_iinc (i := 7) (v := x7 + nI 1) (Lo' := [some (.ref 0), none, none, some (.int x3), none, none, none, some (.int (x7 + nI 1)), none]) dX11_takes_80 rfl (by rfl) (by decide) rfl rfl ?_
    refine wp_goto (tgt := 60) dX11_takes_83 (by decide) ?_
    exact wp_mask [true, false, false, true, false, false, false, true, false] h
set_option maxRecDepth 20000 in
set_option maxHeartbeats 2000000 in
theorem vb_Md_takes_91 {E : KE} {d : Nat} {x1 : Int32} {x2 : Int32} {x3 : Int32} {x5 : Int32} {x6 : Int32} {σ : Sg} {K : Sg → Prop} (h : ((nI 28) ≤ x6 → K σ) ∧ (¬ (nI 28) ≤ x6 → CallI E shR d mX11_of [.ref 0, .int x1, .int ((nI 4) + x6)] σ (fun y2 σ1 => (y2 ≤ 0 → WP E shR mX11_takes (d + 1) 91 [some (.ref 0), some (.int x1), some (.int x2), some (.int x3), none, some (.int x5), some (.int (x6 + nI 1)), none, none] [] σ1 (k_qn K)) ∧ (¬ y2 ≤ 0 → CallI E shR d mX11_priceOf [.ref 0, .int x1, .int x6] σ1 (fun y4 σ3 => vp_in x2 3 ∧ (∀ σ5, σ5 = k_put σ3 12 (upd (σ3 12) x2.toNatClampNeg x6) → CallN E shR d mX11_lay [.ref 0, .int x1, .int ((nI 4) + x6), .int (y2 - (nI 1))] σ5 (fun σ7 => CallN E shR d mX11_takes [.ref 0, .int x1, .int (x2 + (nI 1)), .int x3, .int (x6 + (nI 1)), .int (x5 + y4)] σ7 (fun σ8 => CallN E shR d mX11_lay [.ref 0, .int x1, .int ((nI 4) + x6), .int y2] σ8 (fun σ9 => WP E shR mX11_takes (d + 1) 91 [some (.ref 0), some (.int x1), some (.int x2), some (.int x3), none, some (.int x5), some (.int (x6 + nI 1)), none, none] [] σ9 (k_qn K)))))))))) : WP E shR mX11_takes (d + 1) 91 [some (.ref 0), some (.int x1), some (.int x2), some (.int x3), none, some (.int x5), some (.int x6), none, none] [] σ (k_qn K) := by
  refine wp_iload (i := 6) dX11_takes_91 rfl ?_
  refine wp_bipush (v := nI 28) dX11_takes_93 (by decide) ?_
  refine wp_icmpge (tgt := 179) dX11_takes_95 (by decide) ⟨fun q => ?_, fun q => ?_⟩
  · replace h := h.1 q
    exact wp_return dX11_takes_179 rfl ⟨rfl, h⟩
  · replace h := h.2 q
    refine wp_aload_n (i := 0) dX11_takes_98 rfl rfl ?_
    refine wp_iload_n (i := 1) dX11_takes_99 rfl rfl ?_
    refine wp_iconst (v := nI 4) dX11_takes_100 rfl ?_
    refine wp_iload (i := 6) dX11_takes_101 rfl ?_
    refine wp_iadd dX11_takes_103 ?_
    refine wp_callVI (vs := [.int x1, .int ((nI 4) + x6)]) (rest := []) dX11_takes_104 mV_X11_of lm_X11_65 hR_0 rfl rfl rfl (Nat.le_of_ble_eq_true rfl) (CallI.mono h (fun y2 σ1 h => ?_))
    refine wp_istore (i := 7) (Lo' := [some (.ref 0), some (.int x1), some (.int x2), some (.int x3), none, some (.int x5), some (.int x6), some (.int y2), none]) dX11_takes_107 (by decide) rfl rfl ?_
    refine wp_iload (i := 7) dX11_takes_109 rfl ?_
    refine wp_ifle (tgt := 173) dX11_takes_111 (by decide) ⟨fun q => ?_, fun q => ?_⟩
    · replace h := h.1 q
      refine wp_iinc (i := 6) (v := x6 + nI 1) (Lo' := [some (.ref 0), some (.int x1), some (.int x2), some (.int x3), none, some (.int x5), some (.int (x6 + nI 1)), some (.int y2), none]) dX11_takes_173 rfl (by rfl) (by decide) rfl rfl ?_
      refine wp_goto (tgt := 91) dX11_takes_176 (by decide) ?_
      exact wp_mask [true, true, true, true, false, true, true, false, false] h
    · replace h := h.2 q
      refine wp_aload_n (i := 0) dX11_takes_114 rfl rfl ?_
      refine wp_iload_n (i := 1) dX11_takes_115 rfl rfl ?_
      refine wp_iload (i := 6) dX11_takes_116 rfl ?_
      refine wp_callVI (vs := [.int x1, .int x6]) (rest := []) dX11_takes_118 mV_X11_priceOf lm_X11_106 hR_0 rfl rfl rfl (Nat.le_of_ble_eq_true rfl) (CallI.mono h (fun y4 σ3 h => ?_))
      refine wp_istore (i := 8) (Lo' := [some (.ref 0), some (.int x1), some (.int x2), some (.int x3), none, some (.int x5), some (.int x6), some (.int y2), some (.int y4)]) dX11_takes_121 (by decide) rfl rfl ?_
      refine wp_aload_n (i := 0) dX11_takes_123 rfl rfl ?_
      refine wp_getR (t := 12) dX11_takes_124 lf_X11_43 hR_0 rfl ?_
      refine wp_iload_n (i := 2) dX11_takes_127 rfl rfl ?_
      refine wp_iload (i := 6) dX11_takes_128 rfl ?_
      refine wp_iast dX11_takes_130 hR_12 ⟨h.1, ?_⟩
      refine wp_nm (fun σ5 e6 => ?_)
      replace h := h.2 σ5 e6
      refine wp_aload_n (i := 0) dX11_takes_131 rfl rfl ?_
      refine wp_iload_n (i := 1) dX11_takes_132 rfl rfl ?_
      refine wp_iconst (v := nI 4) dX11_takes_133 rfl ?_
      refine wp_iload (i := 6) dX11_takes_134 rfl ?_
      refine wp_iadd dX11_takes_136 ?_
      refine wp_iload (i := 7) dX11_takes_137 rfl ?_
      refine wp_iconst (v := nI 1) dX11_takes_139 rfl ?_
      refine wp_isub dX11_takes_140 ?_
      refine wp_callVN (vs := [.int x1, .int ((nI 4) + x6), .int (y2 - (nI 1))]) (rest := []) dX11_takes_141 mV_X11_lay lm_X11_91 hR_0 rfl rfl rfl (Nat.le_of_ble_eq_true rfl) (CallN.mono h (fun σ7 h => ?_))
      refine wp_aload_n (i := 0) dX11_takes_144 rfl rfl ?_
      refine wp_iload_n (i := 1) dX11_takes_145 rfl rfl ?_
      refine wp_iload_n (i := 2) dX11_takes_146 rfl rfl ?_
      refine wp_iconst (v := nI 1) dX11_takes_147 rfl ?_
      refine wp_iadd dX11_takes_148 ?_
      refine wp_iload_n (i := 3) dX11_takes_149 rfl rfl ?_
      refine wp_iload (i := 6) dX11_takes_150 rfl ?_
      refine wp_iconst (v := nI 1) dX11_takes_152 rfl ?_
      refine wp_iadd dX11_takes_153 ?_
      refine wp_iload (i := 5) dX11_takes_154 rfl ?_
      refine wp_iload (i := 8) dX11_takes_156 rfl ?_
      refine wp_iadd dX11_takes_158 ?_
      refine wp_callVN (vs := [.int x1, .int (x2 + (nI 1)), .int x3, .int (x6 + (nI 1)), .int (x5 + y4)]) (rest := []) dX11_takes_159 mV_X11_takes lm_X11_228 hR_0 rfl rfl rfl (Nat.le_of_ble_eq_true rfl) (CallN.mono h (fun σ8 h => ?_))
      refine wp_aload_n (i := 0) dX11_takes_162 rfl rfl ?_
      refine wp_iload_n (i := 1) dX11_takes_163 rfl rfl ?_
      refine wp_iconst (v := nI 4) dX11_takes_164 rfl ?_
      refine wp_iload (i := 6) dX11_takes_165 rfl ?_
      refine wp_iadd dX11_takes_167 ?_
      refine wp_iload (i := 7) dX11_takes_168 rfl ?_
      refine wp_callVN (vs := [.int x1, .int ((nI 4) + x6), .int y2]) (rest := []) dX11_takes_170 mV_X11_lay lm_X11_91 hR_0 rfl rfl rfl (Nat.le_of_ble_eq_true rfl) (CallN.mono h (fun σ9 h => ?_))
      refine wp_iinc (i := 6) (v := x6 + nI 1) (Lo' := [some (.ref 0), some (.int x1), some (.int x2), some (.int x3), none, some (.int x5), some (.int (x6 + nI 1)), some (.int y2), some (.int y4)]) dX11_takes_173 rfl (by rfl) (by decide) rfl rfl ?_
      refine wp_goto (tgt := 91) dX11_takes_176 (by decide) ?_
      exact wp_mask [true, true, true, true, false, true, true, false, false] h
set_option maxRecDepth 20000 in
set_option maxHeartbeats 2000000 in
theorem vc_Md_takes {E : KE} {d : Nat} {x1 : Int32} {x2 : Int32} {x3 : Int32} {x4 : Int32} {x5 : Int32} {σ : Sg} {K : Sg → Prop} (h : (¬ x2 = x3 → WP E shR mX11_takes (d + 1) 91 [some (.ref 0), some (.int x1), some (.int x2), some (.int x3), none, some (.int x5), some (.int x4), none, none] [] σ (k_qn K)) ∧ (x2 = x3 → CallI E shR d mX11_notKept [.ref 0] σ (fun y2 σ1 => ((σ1 0 19) < 0 → ∀ σ3, σ3 = k_put σ1 0 (upd (σ1 0) 19 y2) → ∀ σ5, σ5 = k_put σ3 0 (upd (σ3 0) 20 x5) → WP E shR mX11_takes (d + 1) 60 [some (.ref 0), none, none, some (.int x3), none, none, none, some (.int (nI 0)), none] [] σ5 (k_qn K)) ∧ (¬ (σ1 0 19) < 0 → (y2 < (σ1 0 19) → ∀ σ7, σ7 = k_put σ1 0 (upd (σ1 0) 19 y2) → ∀ σ9, σ9 = k_put σ7 0 (upd (σ7 0) 20 x5) → WP E shR mX11_takes (d + 1) 60 [some (.ref 0), none, none, some (.int x3), none, none, none, some (.int (nI 0)), none] [] σ9 (k_qn K)) ∧ (¬ y2 < (σ1 0 19) → (¬ y2 = (σ1 0 19) → K σ1) ∧ (y2 = (σ1 0 19) → ((σ1 0 20) ≤ x5 → K σ1) ∧ (¬ (σ1 0 20) ≤ x5 → ∀ σ11, σ11 = k_put σ1 0 (upd (σ1 0) 19 y2) → ∀ σ13, σ13 = k_put σ11 0 (upd (σ11 0) 20 x5) → WP E shR mX11_takes (d + 1) 60 [some (.ref 0), none, none, some (.int x3), none, none, none, some (.int (nI 0)), none] [] σ13 (k_qn K)))))))) : CallN E shR (d + 1) mX11_takes [.ref 0, .int x1, .int x2, .int x3, .int x4, .int x5] σ K := by
  refine wp_enter (Lo := [some (.ref 0), some (.int x1), some (.int x2), some (.int x3), some (.int x4), some (.int x5), none, none, none]) mp_X11_takes (Nat.le_of_ble_eq_true rfl) rfl ?_
  refine wp_iload_n (i := 2) dX11_takes_0 rfl rfl ?_
  refine wp_iload_n (i := 3) dX11_takes_1 rfl rfl ?_
  refine wp_icmpne (tgt := 87) dX11_takes_2 (by decide) ⟨fun q => ?_, fun q => ?_⟩
  · replace h := h.1 q
    refine wp_iload (i := 4) dX11_takes_87 rfl ?_
    refine wp_istore (i := 6) (Lo' := [some (.ref 0), some (.int x1), some (.int x2), some (.int x3), some (.int x4), some (.int x5), some (.int x4), none, none]) dX11_takes_89 (by decide) rfl rfl ?_
    exact wp_mask [true, true, true, true, false, true, true, false, false] h
  · replace h := h.2 q
    refine wp_aload_n (i := 0) dX11_takes_5 rfl rfl ?_
    refine wp_callVI (vs := []) (rest := []) dX11_takes_6 mV_X11_notKept lm_X11_219 hR_0 rfl rfl rfl (Nat.le_of_ble_eq_true rfl) (CallI.mono h (fun y2 σ1 h => ?_))
    refine wp_istore (i := 6) (Lo' := [some (.ref 0), some (.int x1), some (.int x2), some (.int x3), some (.int x4), some (.int x5), some (.int y2), none, none]) dX11_takes_9 (by decide) rfl rfl ?_
    refine wp_aload_n (i := 0) dX11_takes_11 rfl rfl ?_
    refine wp_getI dX11_takes_12 lf_X11_222 hR_0 rfl ?_
    refine wp_iflt (tgt := 45) dX11_takes_15 (by decide) ⟨fun q => ?_, fun q => ?_⟩
    · replace h := h.1 q
      refine wp_aload_n (i := 0) dX11_takes_45 rfl rfl ?_
      refine wp_iload (i := 6) dX11_takes_46 rfl ?_
      refine wp_put dX11_takes_48 lp_X11_222 hR_0 rfl ⟨⟨rfl, rfl⟩, ?_⟩
      refine wp_nm (fun σ3 e4 => ?_)
      replace h := h σ3 e4
      refine wp_aload_n (i := 0) dX11_takes_51 rfl rfl ?_
      refine wp_iload (i := 5) dX11_takes_52 rfl ?_
      refine wp_put dX11_takes_54 lp_X11_225 hR_0 rfl ⟨⟨rfl, rfl⟩, ?_⟩
      refine wp_nm (fun σ5 e6 => ?_)
      replace h := h σ5 e6
      refine wp_iconst (v := nI 0) dX11_takes_57 rfl ?_
      refine wp_istore (i := 7) (Lo' := [some (.ref 0), some (.int x1), some (.int x2), some (.int x3), some (.int x4), some (.int x5), some (.int y2), some (.int (nI 0)), none]) dX11_takes_58 (by decide) rfl rfl ?_
      exact wp_mask [true, false, false, true, false, false, false, true, false] h
    · replace h := h.2 q
      refine wp_iload (i := 6) dX11_takes_18 rfl ?_
      refine wp_aload_n (i := 0) dX11_takes_20 rfl rfl ?_
      refine wp_getI dX11_takes_21 lf_X11_222 hR_0 rfl ?_
      refine wp_icmplt (tgt := 45) dX11_takes_24 (by decide) ⟨fun q => ?_, fun q => ?_⟩
      · replace h := h.1 q
        refine wp_aload_n (i := 0) dX11_takes_45 rfl rfl ?_
        refine wp_iload (i := 6) dX11_takes_46 rfl ?_
        refine wp_put dX11_takes_48 lp_X11_222 hR_0 rfl ⟨⟨rfl, rfl⟩, ?_⟩
        refine wp_nm (fun σ7 e8 => ?_)
        replace h := h σ7 e8
        refine wp_aload_n (i := 0) dX11_takes_51 rfl rfl ?_
        refine wp_iload (i := 5) dX11_takes_52 rfl ?_
        refine wp_put dX11_takes_54 lp_X11_225 hR_0 rfl ⟨⟨rfl, rfl⟩, ?_⟩
        refine wp_nm (fun σ9 e10 => ?_)
        replace h := h σ9 e10
        refine wp_iconst (v := nI 0) dX11_takes_57 rfl ?_
        refine wp_istore (i := 7) (Lo' := [some (.ref 0), some (.int x1), some (.int x2), some (.int x3), some (.int x4), some (.int x5), some (.int y2), some (.int (nI 0)), none]) dX11_takes_58 (by decide) rfl rfl ?_
        exact wp_mask [true, false, false, true, false, false, false, true, false] h
      · replace h := h.2 q
        refine wp_iload (i := 6) dX11_takes_27 rfl ?_
        refine wp_aload_n (i := 0) dX11_takes_29 rfl rfl ?_
        refine wp_getI dX11_takes_30 lf_X11_222 hR_0 rfl ?_
        refine wp_icmpne (tgt := 86) dX11_takes_33 (by decide) ⟨fun q => ?_, fun q => ?_⟩
        · replace h := h.1 q
          exact wp_return dX11_takes_86 rfl ⟨rfl, h⟩
        · replace h := h.2 q
          refine wp_iload (i := 5) dX11_takes_36 rfl ?_
          refine wp_aload_n (i := 0) dX11_takes_38 rfl rfl ?_
          refine wp_getI dX11_takes_39 lf_X11_225 hR_0 rfl ?_
          refine wp_icmpge (tgt := 86) dX11_takes_42 (by decide) ⟨fun q => ?_, fun q => ?_⟩
          · replace h := h.1 q
            exact wp_return dX11_takes_86 rfl ⟨rfl, h⟩
          · replace h := h.2 q
            refine wp_aload_n (i := 0) dX11_takes_45 rfl rfl ?_
            refine wp_iload (i := 6) dX11_takes_46 rfl ?_
            refine wp_put dX11_takes_48 lp_X11_222 hR_0 rfl ⟨⟨rfl, rfl⟩, ?_⟩
            refine wp_nm (fun σ11 e12 => ?_)
            replace h := h σ11 e12
            refine wp_aload_n (i := 0) dX11_takes_51 rfl rfl ?_
            refine wp_iload (i := 5) dX11_takes_52 rfl ?_
            refine wp_put dX11_takes_54 lp_X11_225 hR_0 rfl ⟨⟨rfl, rfl⟩, ?_⟩
            refine wp_nm (fun σ13 e14 => ?_)
            replace h := h σ13 e14
            refine wp_iconst (v := nI 0) dX11_takes_57 rfl ?_
            refine wp_istore (i := 7) (Lo' := [some (.ref 0), some (.int x1), some (.int x2), some (.int x3), some (.int x4), some (.int x5), some (.int y2), some (.int (nI 0)), none]) dX11_takes_58 (by decide) rfl rfl ?_
            exact wp_mask [true, false, false, true, false, false, false, true, false] h
set_option maxRecDepth 20000 in
set_option maxHeartbeats 2000000 in
theorem vc_Md_bailiffs {E : KE} {d : Nat} {x1 : Int32} {x2 : Int32} {x3 : Int32} {σ : Sg} {K : Int32 → Sg → Prop} (h : CallI E shR d mX11_isPerson [.ref 0, .int x1] σ (fun y2 σ1 => (y2 = 0 → CallI E shR d mX11_error [.ref 0, .int (-1000000001 : Int32)] σ1 (fun y4 σ3 => K y4 σ3)) ∧ (¬ y2 = 0 → CallI E shR d mX11_in [.int x2, .int (nI 1), .int (nI 3)] σ1 (fun y6 σ5 => (y6 = 0 → CallI E shR d mX11_error [.ref 0, .int (-1000000001 : Int32)] σ5 (fun y8 σ7 => K y8 σ7)) ∧ (¬ y6 = 0 → CallI E shR d mX11_in [.int x3, .int (-2 : Int32), .int (x2 - (nI 1))] σ5 (fun y10 σ9 => (¬ y10 = 0 → ∀ σ11, σ11 = k_put σ9 0 (upd (σ9 0) 19 (-1 : Int32)) → CallN E shR d mX11_takes [.ref 0, .int x1, .int (nI 0), .int x2, .int (nI 0), .int (nI 0)] σ11 (fun σ13 => (0 ≤ (σ13 0 19) → (¬ x3 = (-2 : Int32) → (¬ x3 = (-1 : Int32) → vp_in x3 3 ∧ (K (σ13 13 x3.toNatClampNeg) σ13)) ∧ (x3 = (-1 : Int32) → K (σ13 0 19) σ13)) ∧ (x3 = (-2 : Int32) → K (σ13 0 20) σ13)) ∧ (¬ 0 ≤ (σ13 0 19) → CallI E shR d mX11_error [.ref 0, .int (-1000000002 : Int32)] σ13 (fun y15 σ14 => K y15 σ14)))) ∧ (y10 = 0 → CallI E shR d mX11_error [.ref 0, .int (-1000000001 : Int32)] σ9 (fun y17 σ16 => K y17 σ16)))))))) : CallI E shR (d + 1) mX11_bailiffs [.ref 0, .int x1, .int x2, .int x3] σ K := by
  refine wp_enter (Lo := [some (.ref 0), some (.int x1), some (.int x2), some (.int x3)]) mp_X11_bailiffs (Nat.le_of_ble_eq_true rfl) rfl ?_
  refine wp_aload_n (i := 0) dX11_bailiffs_0 rfl rfl ?_
  refine wp_iload_n (i := 1) dX11_bailiffs_1 rfl rfl ?_
  refine wp_callVI (vs := [.int x1]) (rest := []) dX11_bailiffs_2 mV_X11_isPerson lm_X11_57 hR_0 rfl rfl rfl (Nat.le_of_ble_eq_true rfl) (CallI.mono h (fun y2 σ1 h => ?_))
  refine wp_ifeq (tgt := 29) dX11_bailiffs_5 (by decide) ⟨fun q => ?_, fun q => ?_⟩
  · replace h := h.1 q
    refine wp_aload_n (i := 0) dX11_bailiffs_29 rfl rfl ?_
    refine wp_ldc lc_X11_85 dX11_bailiffs_30 ?_
    refine wp_callVI (vs := [.int (-1000000001 : Int32)]) (rest := []) dX11_bailiffs_32 mV_X11_error lm_X11_86 hR_0 rfl rfl rfl (Nat.le_of_ble_eq_true rfl) (CallI.mono h (fun y4 σ3 h => ?_))
    exact wp_ireturn dX11_bailiffs_35 rfl ⟨_, rfl, h⟩
  · replace h := h.2 q
    refine wp_iload_n (i := 2) dX11_bailiffs_8 rfl rfl ?_
    refine wp_iconst (v := nI 1) dX11_bailiffs_9 rfl ?_
    refine wp_iconst (v := nI 3) dX11_bailiffs_10 rfl ?_
    refine wp_callSI (vs := [.int x2, .int (nI 1), .int (nI 3)]) (rest := []) dX11_bailiffs_11 mS_X11_in lm_X11_53 rfl rfl (Nat.le_of_ble_eq_true rfl) (CallI.mono h (fun y6 σ5 h => ?_))
    refine wp_ifeq (tgt := 29) dX11_bailiffs_14 (by decide) ⟨fun q => ?_, fun q => ?_⟩
    · replace h := h.1 q
      refine wp_aload_n (i := 0) dX11_bailiffs_29 rfl rfl ?_
      refine wp_ldc lc_X11_85 dX11_bailiffs_30 ?_
      refine wp_callVI (vs := [.int (-1000000001 : Int32)]) (rest := []) dX11_bailiffs_32 mV_X11_error lm_X11_86 hR_0 rfl rfl rfl (Nat.le_of_ble_eq_true rfl) (CallI.mono h (fun y8 σ7 h => ?_))
      exact wp_ireturn dX11_bailiffs_35 rfl ⟨_, rfl, h⟩
    · replace h := h.2 q
      refine wp_iload_n (i := 3) dX11_bailiffs_17 rfl rfl ?_
      refine wp_bipush (v := (-2 : Int32)) dX11_bailiffs_18 (by decide) ?_
      refine wp_iload_n (i := 2) dX11_bailiffs_20 rfl rfl ?_
      refine wp_iconst (v := nI 1) dX11_bailiffs_21 rfl ?_
      refine wp_isub dX11_bailiffs_22 ?_
      refine wp_callSI (vs := [.int x3, .int (-2 : Int32), .int (x2 - (nI 1))]) (rest := []) dX11_bailiffs_23 mS_X11_in lm_X11_53 rfl rfl (Nat.le_of_ble_eq_true rfl) (CallI.mono h (fun y10 σ9 h => ?_))
      refine wp_ifne (tgt := 36) dX11_bailiffs_26 (by decide) ⟨fun q => ?_, fun q => ?_⟩
      · replace h := h.1 q
        refine wp_aload_n (i := 0) dX11_bailiffs_36 rfl rfl ?_
        refine wp_iconst (v := (-1 : Int32)) dX11_bailiffs_37 rfl ?_
        refine wp_put dX11_bailiffs_38 lp_X11_222 hR_0 rfl ⟨⟨rfl, rfl⟩, ?_⟩
        refine wp_nm (fun σ11 e12 => ?_)
        replace h := h σ11 e12
        refine wp_aload_n (i := 0) dX11_bailiffs_41 rfl rfl ?_
        refine wp_iload_n (i := 1) dX11_bailiffs_42 rfl rfl ?_
        refine wp_iconst (v := nI 0) dX11_bailiffs_43 rfl ?_
        refine wp_iload_n (i := 2) dX11_bailiffs_44 rfl rfl ?_
        refine wp_iconst (v := nI 0) dX11_bailiffs_45 rfl ?_
        refine wp_iconst (v := nI 0) dX11_bailiffs_46 rfl ?_
        refine wp_callVN (vs := [.int x1, .int (nI 0), .int x2, .int (nI 0), .int (nI 0)]) (rest := []) dX11_bailiffs_47 mV_X11_takes lm_X11_228 hR_0 rfl rfl rfl (Nat.le_of_ble_eq_true rfl) (CallN.mono h (fun σ13 h => ?_))
        refine wp_aload_n (i := 0) dX11_bailiffs_50 rfl rfl ?_
        refine wp_getI dX11_bailiffs_51 lf_X11_222 hR_0 rfl ?_
        refine wp_ifge (tgt := 64) dX11_bailiffs_54 (by decide) ⟨fun q => ?_, fun q => ?_⟩
        · replace h := h.1 q
          refine wp_iload_n (i := 3) dX11_bailiffs_64 rfl rfl ?_
          refine wp_bipush (v := (-2 : Int32)) dX11_bailiffs_65 (by decide) ?_
          refine wp_icmpne (tgt := 77) dX11_bailiffs_67 (by decide) ⟨fun q => ?_, fun q => ?_⟩
          · replace h := h.1 q
            refine wp_iload_n (i := 3) dX11_bailiffs_77 rfl rfl ?_
            refine wp_iconst (v := (-1 : Int32)) dX11_bailiffs_78 rfl ?_
            refine wp_icmpne (tgt := 89) dX11_bailiffs_79 (by decide) ⟨fun q => ?_, fun q => ?_⟩
            · replace h := h.1 q
              refine wp_aload_n (i := 0) dX11_bailiffs_89 rfl rfl ?_
              refine wp_getR (t := 13) dX11_bailiffs_90 lf_X11_46 hR_0 rfl ?_
              refine wp_iload_n (i := 3) dX11_bailiffs_93 rfl rfl ?_
              refine wp_iald dX11_bailiffs_94 hR_13 ⟨h.1, ?_⟩
              replace h := h.2
              exact wp_ireturn dX11_bailiffs_95 rfl ⟨_, rfl, h⟩
            · replace h := h.2 q
              refine wp_aload_n (i := 0) dX11_bailiffs_82 rfl rfl ?_
              refine wp_getI dX11_bailiffs_83 lf_X11_222 hR_0 rfl ?_
              refine wp_goto (tgt := 95) dX11_bailiffs_86 (by decide) ?_
              exact wp_ireturn dX11_bailiffs_95 rfl ⟨_, rfl, h⟩
          · replace h := h.2 q
            refine wp_aload_n (i := 0) dX11_bailiffs_70 rfl rfl ?_
            refine wp_getI dX11_bailiffs_71 lf_X11_225 hR_0 rfl ?_
            refine wp_goto (tgt := 95) dX11_bailiffs_74 (by decide) ?_
            exact wp_ireturn dX11_bailiffs_95 rfl ⟨_, rfl, h⟩
        · replace h := h.2 q
          refine wp_aload_n (i := 0) dX11_bailiffs_57 rfl rfl ?_
          refine wp_ldc lc_X11_209 dX11_bailiffs_58 ?_
          refine wp_callVI (vs := [.int (-1000000002 : Int32)]) (rest := []) dX11_bailiffs_60 mV_X11_error lm_X11_86 hR_0 rfl rfl rfl (Nat.le_of_ble_eq_true rfl) (CallI.mono h (fun y15 σ14 h => ?_))
          exact wp_ireturn dX11_bailiffs_63 rfl ⟨_, rfl, h⟩
      · replace h := h.2 q
        refine wp_aload_n (i := 0) dX11_bailiffs_29 rfl rfl ?_
        refine wp_ldc lc_X11_85 dX11_bailiffs_30 ?_
        refine wp_callVI (vs := [.int (-1000000001 : Int32)]) (rest := []) dX11_bailiffs_32 mV_X11_error lm_X11_86 hR_0 rfl rfl rfl (Nat.le_of_ble_eq_true rfl) (CallI.mono h (fun y17 σ16 h => ?_))
        exact wp_ireturn dX11_bailiffs_35 rfl ⟨_, rfl, h⟩
set_option maxRecDepth 20000 in
set_option maxHeartbeats 2000000 in
theorem vb_Md_odds_68 {E : KE} {d : Nat} {x2 : Int32} {x3 : Int32} {x4 : Int32} {x5 : Int32} {σ : Sg} {K : Int32 → Sg → Prop} (h : (x5 ≤ (nI 1) → (¬ x2 = 0 → K x4 σ) ∧ (x2 = 0 → K x3 σ)) ∧ (¬ x5 ≤ (nI 1) → ¬ x5 = 0 ∧ ((¬ (x3 - x3 / x5 * x5) = 0 → WP E shR mX11_odds (d + 1) 68 [none, none, some (.int x2), some (.int x3), some (.int x4), some (.int (x5 + (-1 : Int32)))] [] σ (k_qi K)) ∧ ((x3 - x3 / x5 * x5) = 0 → ¬ x5 = 0 ∧ ((¬ (x4 - x4 / x5 * x5) = 0 → WP E shR mX11_odds (d + 1) 68 [none, none, some (.int x2), some (.int x3), some (.int x4), some (.int (x5 + (-1 : Int32)))] [] σ (k_qi K)) ∧ ((x4 - x4 / x5 * x5) = 0 → ¬ x5 = 0 ∧ (¬ x5 = 0 ∧ (WP E shR mX11_odds (d + 1) 68 [none, none, some (.int x2), some (.int (x3 / x5)), some (.int (x4 / x5)), some (.int (x5 + (-1 : Int32)))] [] σ (k_qi K))))))))) : WP E shR mX11_odds (d + 1) 68 [none, none, some (.int x2), some (.int x3), some (.int x4), some (.int x5)] [] σ (k_qi K) := by
  refine wp_iload (i := 5) dX11_odds_68 rfl ?_
  refine wp_iconst (v := nI 1) dX11_odds_70 rfl ?_
  refine wp_icmple (tgt := 107) dX11_odds_71 (by decide) ⟨fun q => ?_, fun q => ?_⟩
  · replace h := h.1 q
    refine wp_iload_n (i := 2) dX11_odds_107 rfl rfl ?_
    refine wp_ifne (tgt := 115) dX11_odds_108 (by decide) ⟨fun q => ?_, fun q => ?_⟩
    · replace h := h.1 q
      refine wp_iload (i := 4) dX11_odds_115 rfl ?_
      exact wp_ireturn dX11_odds_117 rfl ⟨_, rfl, h⟩
    · replace h := h.2 q
      refine wp_iload_n (i := 3) dX11_odds_111 rfl rfl ?_
      refine wp_goto (tgt := 117) dX11_odds_112 (by decide) ?_
      exact wp_ireturn dX11_odds_117 rfl ⟨_, rfl, h⟩
  · replace h := h.2 q
    refine wp_iload_n (i := 3) dX11_odds_74 rfl rfl ?_
    refine wp_iload (i := 5) dX11_odds_75 rfl ?_
    refine wp_irem dX11_odds_77 ⟨h.1, ?_⟩
    replace h := h.2
    refine wp_ifne (tgt := 101) dX11_odds_78 (by decide) ⟨fun q => ?_, fun q => ?_⟩
    · replace h := h.1 q
      refine wp_iinc (i := 5) (v := x5 + (-1 : Int32)) (Lo' := [none, none, some (.int x2), some (.int x3), some (.int x4), some (.int (x5 + (-1 : Int32)))]) dX11_odds_101 rfl (by rfl) (by decide) rfl rfl ?_
      refine wp_goto (tgt := 68) dX11_odds_104 (by decide) ?_
      exact wp_mask [false, false, true, true, true, true] h
    · replace h := h.2 q
      refine wp_iload (i := 4) dX11_odds_81 rfl ?_
      refine wp_iload (i := 5) dX11_odds_83 rfl ?_
      refine wp_irem dX11_odds_85 ⟨h.1, ?_⟩
      replace h := h.2
      refine wp_ifne (tgt := 101) dX11_odds_86 (by decide) ⟨fun q => ?_, fun q => ?_⟩
      · replace h := h.1 q
        refine wp_iinc (i := 5) (v := x5 + (-1 : Int32)) (Lo' := [none, none, some (.int x2), some (.int x3), some (.int x4), some (.int (x5 + (-1 : Int32)))]) dX11_odds_101 rfl (by rfl) (by decide) rfl rfl ?_
        refine wp_goto (tgt := 68) dX11_odds_104 (by decide) ?_
        exact wp_mask [false, false, true, true, true, true] h
      · replace h := h.2 q
        refine wp_iload_n (i := 3) dX11_odds_89 rfl rfl ?_
        refine wp_iload (i := 5) dX11_odds_90 rfl ?_
        refine wp_idiv dX11_odds_92 ⟨h.1, ?_⟩
        replace h := h.2
        refine wp_istore_n (i := 3) (Lo' := [none, none, some (.int x2), some (.int (x3 / x5)), some (.int x4), some (.int x5)]) dX11_odds_93 rfl (by decide) rfl rfl ?_
        refine wp_iload (i := 4) dX11_odds_94 rfl ?_
        refine wp_iload (i := 5) dX11_odds_96 rfl ?_
        refine wp_idiv dX11_odds_98 ⟨h.1, ?_⟩
        replace h := h.2
        refine wp_istore (i := 4) (Lo' := [none, none, some (.int x2), some (.int (x3 / x5)), some (.int (x4 / x5)), some (.int x5)]) dX11_odds_99 (by decide) rfl rfl ?_
        refine wp_iinc (i := 5) (v := x5 + (-1 : Int32)) (Lo' := [none, none, some (.int x2), some (.int (x3 / x5)), some (.int (x4 / x5)), some (.int (x5 + (-1 : Int32)))]) dX11_odds_101 rfl (by rfl) (by decide) rfl rfl ?_
        refine wp_goto (tgt := 68) dX11_odds_104 (by decide) ?_
        exact wp_mask [false, false, true, true, true, true] h
set_option maxRecDepth 20000 in
set_option maxHeartbeats 2000000 in
theorem vb_Md_odds_29 {E : KE} {d : Nat} {x1 : Int32} {x2 : Int32} {x3 : Int32} {x4 : Int32} {σ : Sg} {K : Int32 → Sg → Prop} (h : ((nI 28) ≤ x4 → WP E shR mX11_odds (d + 1) 68 [none, none, some (.int x2), some (.int x3), some (.int (nI 28)), some (.int (nI 28))] [] σ (k_qi K)) ∧ (¬ (nI 28) ≤ x4 → CallI E shR d mX11_isUp [.ref 0, .int x1, .int x4] σ (fun y2 σ1 => (y2 = 0 → WP E shR mX11_odds (d + 1) 29 [some (.ref 0), some (.int x1), some (.int x2), some (.int (x3 + (nI 0))), some (.int (x4 + nI 1)), none] [] σ1 (k_qi K)) ∧ (¬ y2 = 0 → WP E shR mX11_odds (d + 1) 29 [some (.ref 0), some (.int x1), some (.int x2), some (.int (x3 + (nI 1))), some (.int (x4 + nI 1)), none] [] σ1 (k_qi K))))) : WP E shR mX11_odds (d + 1) 29 [some (.ref 0), some (.int x1), some (.int x2), some (.int x3), some (.int x4), none] [] σ (k_qi K) := by
  refine wp_iload (i := 4) dX11_odds_29 rfl ?_
  refine wp_bipush (v := nI 28) dX11_odds_31 (by decide) ?_
  refine wp_icmpge (tgt := 60) dX11_odds_33 (by decide) ⟨fun q => ?_, fun q => ?_⟩
  · replace h := h.1 q
    refine wp_bipush (v := nI 28) dX11_odds_60 (by decide) ?_
    refine wp_istore (i := 4) (Lo' := [some (.ref 0), some (.int x1), some (.int x2), some (.int x3), some (.int (nI 28)), none]) dX11_odds_62 (by decide) rfl rfl ?_
    refine wp_bipush (v := nI 28) dX11_odds_64 (by decide) ?_
    refine wp_istore (i := 5) (Lo' := [some (.ref 0), some (.int x1), some (.int x2), some (.int x3), some (.int (nI 28)), some (.int (nI 28))]) dX11_odds_66 (by decide) rfl rfl ?_
    exact wp_mask [false, false, true, true, true, true] h
  · replace h := h.2 q
    refine wp_iload_n (i := 3) dX11_odds_36 rfl rfl ?_
    refine wp_aload_n (i := 0) dX11_odds_37 rfl rfl ?_
    refine wp_iload_n (i := 1) dX11_odds_38 rfl rfl ?_
    refine wp_iload (i := 4) dX11_odds_39 rfl ?_
    refine wp_callVI (vs := [.int x1, .int x4]) (rest := [.int x3]) dX11_odds_41 mV_X11_isUp lm_X11_72 hR_0 rfl rfl rfl (Nat.le_of_ble_eq_true rfl) (CallI.mono h (fun y2 σ1 h => ?_))
    refine wp_ifeq (tgt := 51) dX11_odds_44 (by decide) ⟨fun q => ?_, fun q => ?_⟩
    · replace h := h.1 q
      refine wp_iconst (v := nI 0) dX11_odds_51 rfl ?_
      refine wp_iadd dX11_odds_52 ?_
      refine wp_istore_n (i := 3) (Lo' := [some (.ref 0), some (.int x1), some (.int x2), some (.int (x3 + (nI 0))), some (.int x4), none]) dX11_odds_53 rfl (by decide) rfl rfl ?_
      refine wp_iinc (i := 4) (v := x4 + nI 1) (Lo' := [some (.ref 0), some (.int x1), some (.int x2), some (.int (x3 + (nI 0))), some (.int (x4 + nI 1)), none]) dX11_odds_54 rfl (by rfl) (by decide) rfl rfl ?_
      refine wp_goto (tgt := 29) dX11_odds_57 (by decide) ?_
      exact wp_mask [true, true, true, true, true, false] h
    · replace h := h.2 q
      refine wp_iconst (v := nI 1) dX11_odds_47 rfl ?_
      refine wp_goto (tgt := 52) dX11_odds_48 (by decide) ?_
      refine wp_iadd dX11_odds_52 ?_
      refine wp_istore_n (i := 3) (Lo' := [some (.ref 0), some (.int x1), some (.int x2), some (.int (x3 + (nI 1))), some (.int x4), none]) dX11_odds_53 rfl (by decide) rfl rfl ?_
      refine wp_iinc (i := 4) (v := x4 + nI 1) (Lo' := [some (.ref 0), some (.int x1), some (.int x2), some (.int (x3 + (nI 1))), some (.int (x4 + nI 1)), none]) dX11_odds_54 rfl (by rfl) (by decide) rfl rfl ?_
      refine wp_goto (tgt := 29) dX11_odds_57 (by decide) ?_
      exact wp_mask [true, true, true, true, true, false] h
set_option maxRecDepth 20000 in
set_option maxHeartbeats 2000000 in
theorem vc_Md_odds {E : KE} {d : Nat} {x1 : Int32} {x2 : Int32} {σ : Sg} {K : Int32 → Sg → Prop} (h : CallI E shR d mX11_isPerson [.ref 0, .int x1] σ (fun y2 σ1 => (y2 = 0 → CallI E shR d mX11_error [.ref 0, .int (-1000000001 : Int32)] σ1 (fun y4 σ3 => K y4 σ3)) ∧ (¬ y2 = 0 → CallI E shR d mX11_in [.int x2, .int (nI 0), .int (nI 1)] σ1 (fun y6 σ5 => (¬ y6 = 0 → WP E shR mX11_odds (d + 1) 29 [some (.ref 0), some (.int x1), some (.int x2), some (.int (nI 0)), some (.int (nI 0)), none] [] σ5 (k_qi K)) ∧ (y6 = 0 → CallI E shR d mX11_error [.ref 0, .int (-1000000001 : Int32)] σ5 (fun y8 σ7 => K y8 σ7)))))) : CallI E shR (d + 1) mX11_odds [.ref 0, .int x1, .int x2] σ K := by
  refine wp_enter (Lo := [some (.ref 0), some (.int x1), some (.int x2), none, none, none]) mp_X11_odds (Nat.le_of_ble_eq_true rfl) rfl ?_
  refine wp_aload_n (i := 0) dX11_odds_0 rfl rfl ?_
  refine wp_iload_n (i := 1) dX11_odds_1 rfl rfl ?_
  refine wp_callVI (vs := [.int x1]) (rest := []) dX11_odds_2 mV_X11_isPerson lm_X11_57 hR_0 rfl rfl rfl (Nat.le_of_ble_eq_true rfl) (CallI.mono h (fun y2 σ1 h => ?_))
  refine wp_ifeq (tgt := 17) dX11_odds_5 (by decide) ⟨fun q => ?_, fun q => ?_⟩
  · replace h := h.1 q
    refine wp_aload_n (i := 0) dX11_odds_17 rfl rfl ?_
    refine wp_ldc lc_X11_85 dX11_odds_18 ?_
    refine wp_callVI (vs := [.int (-1000000001 : Int32)]) (rest := []) dX11_odds_20 mV_X11_error lm_X11_86 hR_0 rfl rfl rfl (Nat.le_of_ble_eq_true rfl) (CallI.mono h (fun y4 σ3 h => ?_))
    exact wp_ireturn dX11_odds_23 rfl ⟨_, rfl, h⟩
  · replace h := h.2 q
    refine wp_iload_n (i := 2) dX11_odds_8 rfl rfl ?_
    refine wp_iconst (v := nI 0) dX11_odds_9 rfl ?_
    refine wp_iconst (v := nI 1) dX11_odds_10 rfl ?_
    refine wp_callSI (vs := [.int x2, .int (nI 0), .int (nI 1)]) (rest := []) dX11_odds_11 mS_X11_in lm_X11_53 rfl rfl (Nat.le_of_ble_eq_true rfl) (CallI.mono h (fun y6 σ5 h => ?_))
    refine wp_ifne (tgt := 24) dX11_odds_14 (by decide) ⟨fun q => ?_, fun q => ?_⟩
    · replace h := h.1 q
      refine wp_iconst (v := nI 0) dX11_odds_24 rfl ?_
      refine wp_istore_n (i := 3) (Lo' := [some (.ref 0), some (.int x1), some (.int x2), some (.int (nI 0)), none, none]) dX11_odds_25 rfl (by decide) rfl rfl ?_
      refine wp_iconst (v := nI 0) dX11_odds_26 rfl ?_
      refine wp_istore (i := 4) (Lo' := [some (.ref 0), some (.int x1), some (.int x2), some (.int (nI 0)), some (.int (nI 0)), none]) dX11_odds_27 (by decide) rfl rfl ?_
      exact wp_mask [true, true, true, true, true, false] h
    · replace h := h.2 q
      refine wp_aload_n (i := 0) dX11_odds_17 rfl rfl ?_
      refine wp_ldc lc_X11_85 dX11_odds_18 ?_
      refine wp_callVI (vs := [.int (-1000000001 : Int32)]) (rest := []) dX11_odds_20 mV_X11_error lm_X11_86 hR_0 rfl rfl rfl (Nat.le_of_ble_eq_true rfl) (CallI.mono h (fun y8 σ7 h => ?_))
      exact wp_ireturn dX11_odds_23 rfl ⟨_, rfl, h⟩
set_option maxRecDepth 20000 in
set_option maxHeartbeats 2000000 in
theorem vc_Md_notThere {E : KE} {d : Nat} {x1 : Int32} {σ : Sg} {K : Int32 → Sg → Prop} (h : CallI E shR d mX11_isSheet [.int x1] σ (fun y2 σ1 => (¬ y2 = 0 → vp_in x1 4 ∧ ((¬ (σ1 5 x1.toNatClampNeg) = 0 → K (nI 0) σ1) ∧ ((σ1 5 x1.toNatClampNeg) = 0 → K (-1000000002 : Int32) σ1))) ∧ (y2 = 0 → K (-1000000001 : Int32) σ1))) : CallI E shR (d + 1) mX11_notThere [.ref 0, .int x1] σ K := by
  refine wp_enter (Lo := [some (.ref 0), some (.int x1)]) mp_X11_notThere (Nat.le_of_ble_eq_true rfl) rfl ?_
  refine wp_iload_n (i := 1) dX11_notThere_0 rfl rfl ?_
  refine wp_callSI (vs := [.int x1]) (rest := []) dX11_notThere_1 mS_X11_isSheet lm_X11_275 rfl rfl (Nat.le_of_ble_eq_true rfl) (CallI.mono h (fun y2 σ1 h => ?_))
  refine wp_ifne (tgt := 12) dX11_notThere_4 (by decide) ⟨fun q => ?_, fun q => ?_⟩
  · replace h := h.1 q
    refine wp_aload_n (i := 0) dX11_notThere_12 rfl rfl ?_
    refine wp_getR (t := 5) dX11_notThere_13 lf_X11_22 hR_0 rfl ?_
    refine wp_iload_n (i := 1) dX11_notThere_16 rfl rfl ?_
    refine wp_iald dX11_notThere_17 hR_5 ⟨h.1, ?_⟩
    replace h := h.2
    refine wp_ifne (tgt := 26) dX11_notThere_18 (by decide) ⟨fun q => ?_, fun q => ?_⟩
    · replace h := h.1 q
      refine wp_iconst (v := nI 0) dX11_notThere_26 rfl ?_
      exact wp_ireturn dX11_notThere_27 rfl ⟨_, rfl, h⟩
    · replace h := h.2 q
      refine wp_ldc lc_X11_209 dX11_notThere_21 ?_
      refine wp_goto (tgt := 27) dX11_notThere_23 (by decide) ?_
      exact wp_ireturn dX11_notThere_27 rfl ⟨_, rfl, h⟩
  · replace h := h.2 q
    refine wp_ldc lc_X11_85 dX11_notThere_7 ?_
    refine wp_goto (tgt := 27) dX11_notThere_9 (by decide) ?_
    exact wp_ireturn dX11_notThere_27 rfl ⟨_, rfl, h⟩
set_option maxRecDepth 20000 in
set_option maxHeartbeats 2000000 in
theorem vb_Md_fits_38 {E : KE} {d : Nat} {x1 : Int32} {x3 : Int32} {x4 : Int32} {x5 : Int32} {x6 : Int32} {σ : Sg} {K : Int32 → Sg → Prop} (h : vp_in x1 4 ∧ (((σ 6 x1.toNatClampNeg) ≤ x6 → (x5 = 0 → WP E shR mX11_fits (d + 1) 21 [some (.ref 0), some (.int x1), none, some (.int (x3 ||| (nI 0))), some (.int (x4 + nI 1)), none, none] [] σ (k_qi K)) ∧ (¬ x5 = 0 → WP E shR mX11_fits (d + 1) 21 [some (.ref 0), some (.int x1), none, some (.int (x3 ||| ((nI 1) <<< (x4 &&& 31)))), some (.int (x4 + nI 1)), none, none] [] σ (k_qi K))) ∧ (¬ (σ 6 x1.toNatClampNeg) ≤ x6 → (x5 = 0 → WP E shR mX11_fits (d + 1) 38 [some (.ref 0), some (.int x1), none, some (.int x3), some (.int x4), some (.int (nI 0)), some (.int (x6 + nI 1))] [] σ (k_qi K)) ∧ (¬ x5 = 0 → vp_in (((nI 24) * x1) + x6) 96 ∧ (vp_in (nI 0) 552 ∧ (CallI E shR d mX11_livesOf [.ref 0, .int x4, .int (((σ 1 (nI 0).toNatClampNeg) + x6) - ((σ 1 (nI 0).toNatClampNeg) + x6) / (nI 28) * (nI 28))] σ (fun y2 σ1 => (¬ (σ 7 (((nI 24) * x1) + x6).toNatClampNeg) = y2 → WP E shR mX11_fits (d + 1) 38 [some (.ref 0), some (.int x1), none, some (.int x3), some (.int x4), some (.int (nI 0)), some (.int (x6 + nI 1))] [] σ1 (k_qi K)) ∧ ((σ 7 (((nI 24) * x1) + x6).toNatClampNeg) = y2 → WP E shR mX11_fits (d + 1) 38 [some (.ref 0), some (.int x1), none, some (.int x3), some (.int x4), some (.int (nI 1)), some (.int (x6 + nI 1))] [] σ1 (k_qi K))))))))) : WP E shR mX11_fits (d + 1) 38 [some (.ref 0), some (.int x1), none, some (.int x3), some (.int x4), some (.int x5), some (.int x6)] [] σ (k_qi K) := by
  refine wp_iload (i := 6) dX11_fits_38 rfl ?_
  refine wp_aload_n (i := 0) dX11_fits_40 rfl rfl ?_
  refine wp_getR (t := 6) dX11_fits_41 lf_X11_25 hR_0 rfl ?_
  refine wp_iload_n (i := 1) dX11_fits_44 rfl rfl ?_
  refine wp_iald dX11_fits_45 hR_6 ⟨h.1, ?_⟩
  replace h := h.2
  refine wp_icmpge (tgt := 100) dX11_fits_46 (by decide) ⟨fun q => ?_, fun q => ?_⟩
  · replace h := h.1 q
    refine wp_iload_n (i := 3) dX11_fits_100 rfl rfl ?_
    refine wp_iload (i := 5) dX11_fits_101 rfl ?_
    refine wp_ifeq (tgt := 113) dX11_fits_103 (by decide) ⟨fun q => ?_, fun q => ?_⟩
    · replace h := h.1 q
      refine wp_iconst (v := nI 0) dX11_fits_113 rfl ?_
      refine wp_ior dX11_fits_114 ?_
      refine wp_istore_n (i := 3) (Lo' := [some (.ref 0), some (.int x1), none, some (.int (x3 ||| (nI 0))), some (.int x4), some (.int x5), some (.int x6)]) dX11_fits_115 rfl (by decide) rfl rfl ?_
      refine wp_iinc (i := 4) (v := x4 + nI 1) (Lo' := [some (.ref 0), some (.int x1), none, some (.int (x3 ||| (nI 0))), some (.int (x4 + nI 1)), some (.int x5), some (.int x6)]) dX11_fits_116 rfl (by rfl) (by decide) rfl rfl ?_
      refine wp_goto (tgt := 21) dX11_fits_119 (by decide) ?_
      exact wp_mask [true, true, false, true, true, false, false] h
    · replace h := h.2 q
      refine wp_iconst (v := nI 1) dX11_fits_106 rfl ?_
      refine wp_iload (i := 4) dX11_fits_107 rfl ?_
      refine wp_ishl dX11_fits_109 ?_
      refine wp_goto (tgt := 114) dX11_fits_110 (by decide) ?_
      refine wp_ior dX11_fits_114 ?_
      refine wp_istore_n (i := 3) (Lo' := [some (.ref 0), some (.int x1), none, some (.int (x3 ||| ((nI 1) <<< (x4 &&& 31)))), some (.int x4), some (.int x5), some (.int x6)]) dX11_fits_115 rfl (by decide) rfl rfl ?_
      refine wp_iinc (i := 4) (v := x4 + nI 1) (Lo' := [some (.ref 0), some (.int x1), none, some (.int (x3 ||| ((nI 1) <<< (x4 &&& 31)))), some (.int (x4 + nI 1)), some (.int x5), some (.int x6)]) dX11_fits_116 rfl (by rfl) (by decide) rfl rfl ?_
      refine wp_goto (tgt := 21) dX11_fits_119 (by decide) ?_
      exact wp_mask [true, true, false, true, true, false, false] h
  · replace h := h.2 q
    refine wp_iload (i := 5) dX11_fits_49 rfl ?_
    refine wp_ifeq (tgt := 91) dX11_fits_51 (by decide) ⟨fun q => ?_, fun q => ?_⟩
    · replace h := h.1 q
      refine wp_iconst (v := nI 0) dX11_fits_91 rfl ?_
      refine wp_istore (i := 5) (Lo' := [some (.ref 0), some (.int x1), none, some (.int x3), some (.int x4), some (.int (nI 0)), some (.int x6)]) dX11_fits_92 (by decide) rfl rfl ?_
      refine wp_iinc (i := 6) (v := x6 + nI 1) (Lo' := [some (.ref 0), some (.int x1), none, some (.int x3), some (.int x4), some (.int (nI 0)), some (.int (x6 + nI 1))]) dX11_fits_94 rfl (by rfl) (by decide) rfl rfl ?_
      refine wp_goto (tgt := 38) dX11_fits_97 (by decide) ?_
      exact wp_mask [true, true, false, true, true, true, true] h
    · replace h := h.2 q
      refine wp_aload_n (i := 0) dX11_fits_54 rfl rfl ?_
      refine wp_getR (t := 7) dX11_fits_55 lf_X11_28 hR_0 rfl ?_
      refine wp_bipush (v := nI 24) dX11_fits_58 (by decide) ?_
      refine wp_iload_n (i := 1) dX11_fits_60 rfl rfl ?_
      refine wp_imul dX11_fits_61 ?_
      refine wp_iload (i := 6) dX11_fits_62 rfl ?_
      refine wp_iadd dX11_fits_64 ?_
      refine wp_iald dX11_fits_65 hR_7 ⟨h.1, ?_⟩
      replace h := h.2
      refine wp_aload_n (i := 0) dX11_fits_66 rfl rfl ?_
      refine wp_iload (i := 4) dX11_fits_67 rfl ?_
      refine wp_aload_n (i := 0) dX11_fits_69 rfl rfl ?_
      refine wp_getR (t := 1) dX11_fits_70 lf_X11_9 hR_0 rfl ?_
      refine wp_iconst (v := nI 0) dX11_fits_73 rfl ?_
      refine wp_iald dX11_fits_74 hR_1 ⟨h.1, ?_⟩
      replace h := h.2
      refine wp_iload (i := 6) dX11_fits_75 rfl ?_
      refine wp_iadd dX11_fits_77 ?_
      refine wp_bipush (v := nI 28) dX11_fits_78 (by decide) ?_
      refine wp_irem dX11_fits_80 ⟨by decide, ?_⟩
      refine wp_callVI (vs := [.int x4, .int (((σ 1 (nI 0).toNatClampNeg) + x6) - ((σ 1 (nI 0).toNatClampNeg) + x6) / (nI 28) * (nI 28))]) (rest := [.int (σ 7 (((nI 24) * x1) + x6).toNatClampNeg)]) dX11_fits_81 mV_X11_livesOf lm_X11_69 hR_0 rfl rfl rfl (Nat.le_of_ble_eq_true rfl) (CallI.mono h (fun y2 σ1 h => ?_))
      refine wp_icmpne (tgt := 91) dX11_fits_84 (by decide) ⟨fun q => ?_, fun q => ?_⟩
      · replace h := h.1 q
        refine wp_iconst (v := nI 0) dX11_fits_91 rfl ?_
        refine wp_istore (i := 5) (Lo' := [some (.ref 0), some (.int x1), none, some (.int x3), some (.int x4), some (.int (nI 0)), some (.int x6)]) dX11_fits_92 (by decide) rfl rfl ?_
        refine wp_iinc (i := 6) (v := x6 + nI 1) (Lo' := [some (.ref 0), some (.int x1), none, some (.int x3), some (.int x4), some (.int (nI 0)), some (.int (x6 + nI 1))]) dX11_fits_94 rfl (by rfl) (by decide) rfl rfl ?_
        refine wp_goto (tgt := 38) dX11_fits_97 (by decide) ?_
        exact wp_mask [true, true, false, true, true, true, true] h
      · replace h := h.2 q
        refine wp_iconst (v := nI 1) dX11_fits_87 rfl ?_
        refine wp_goto (tgt := 92) dX11_fits_88 (by decide) ?_
        refine wp_istore (i := 5) (Lo' := [some (.ref 0), some (.int x1), none, some (.int x3), some (.int x4), some (.int (nI 1)), some (.int x6)]) dX11_fits_92 (by decide) rfl rfl ?_
        refine wp_iinc (i := 6) (v := x6 + nI 1) (Lo' := [some (.ref 0), some (.int x1), none, some (.int x3), some (.int x4), some (.int (nI 1)), some (.int (x6 + nI 1))]) dX11_fits_94 rfl (by rfl) (by decide) rfl rfl ?_
        refine wp_goto (tgt := 38) dX11_fits_97 (by decide) ?_
        exact wp_mask [true, true, false, true, true, true, true] h
set_option maxRecDepth 20000 in
set_option maxHeartbeats 2000000 in
theorem vb_Md_fits_21 {E : KE} {d : Nat} {x1 : Int32} {x3 : Int32} {x4 : Int32} {σ : Sg} {K : Int32 → Sg → Prop} (h : vp_in (nI 2) 552 ∧ (((σ 1 (nI 2).toNatClampNeg) ≤ x4 → K x3 σ) ∧ (¬ (σ 1 (nI 2).toNatClampNeg) ≤ x4 → WP E shR mX11_fits (d + 1) 38 [some (.ref 0), some (.int x1), none, some (.int x3), some (.int x4), some (.int (nI 1)), some (.int (nI 0))] [] σ (k_qi K)))) : WP E shR mX11_fits (d + 1) 21 [some (.ref 0), some (.int x1), none, some (.int x3), some (.int x4), none, none] [] σ (k_qi K) := by
  refine wp_iload (i := 4) dX11_fits_21 rfl ?_
  refine wp_aload_n (i := 0) dX11_fits_23 rfl rfl ?_
  refine wp_getR (t := 1) dX11_fits_24 lf_X11_9 hR_0 rfl ?_
  refine wp_iconst (v := nI 2) dX11_fits_27 rfl ?_
  refine wp_iald dX11_fits_28 hR_1 ⟨h.1, ?_⟩
  replace h := h.2
  refine wp_icmpge (tgt := 122) dX11_fits_29 (by decide) ⟨fun q => ?_, fun q => ?_⟩
  · replace h := h.1 q
    refine wp_iload_n (i := 3) dX11_fits_122 rfl rfl ?_
    exact wp_ireturn dX11_fits_123 rfl ⟨_, rfl, h⟩
  · replace h := h.2 q
    refine wp_iconst (v := nI 1) dX11_fits_32 rfl ?_
    refine wp_istore (i := 5) (Lo' := [some (.ref 0), some (.int x1), none, some (.int x3), some (.int x4), some (.int (nI 1)), none]) dX11_fits_33 (by decide) rfl rfl ?_
    refine wp_iconst (v := nI 0) dX11_fits_35 rfl ?_
    refine wp_istore (i := 6) (Lo' := [some (.ref 0), some (.int x1), none, some (.int x3), some (.int x4), some (.int (nI 1)), some (.int (nI 0))]) dX11_fits_36 (by decide) rfl rfl ?_
    exact wp_mask [true, true, false, true, true, true, true] h
set_option maxRecDepth 20000 in
set_option maxHeartbeats 2000000 in
theorem vc_Md_fits {E : KE} {d : Nat} {x1 : Int32} {σ : Sg} {K : Int32 → Sg → Prop} (h : CallI E shR d mX11_notThere [.ref 0, .int x1] σ (fun y2 σ1 => (y2 = 0 → WP E shR mX11_fits (d + 1) 21 [some (.ref 0), some (.int x1), none, some (.int (nI 0)), some (.int (nI 0)), none, none] [] σ1 (k_qi K)) ∧ (¬ y2 = 0 → CallI E shR d mX11_error [.ref 0, .int y2] σ1 (fun y4 σ3 => K y4 σ3)))) : CallI E shR (d + 1) mX11_fits [.ref 0, .int x1] σ K := by
  refine wp_enter (Lo := [some (.ref 0), some (.int x1), none, none, none, none, none]) mp_X11_fits (Nat.le_of_ble_eq_true rfl) rfl ?_
  refine wp_aload_n (i := 0) dX11_fits_0 rfl rfl ?_
  refine wp_iload_n (i := 1) dX11_fits_1 rfl rfl ?_
  refine wp_callVI (vs := [.int x1]) (rest := []) dX11_fits_2 mV_X11_notThere lm_X11_232 hR_0 rfl rfl rfl (Nat.le_of_ble_eq_true rfl) (CallI.mono h (fun y2 σ1 h => ?_))
  refine wp_istore_n (i := 2) (Lo' := [some (.ref 0), some (.int x1), some (.int y2), none, none, none, none]) dX11_fits_5 rfl (by decide) rfl rfl ?_
  refine wp_iload_n (i := 2) dX11_fits_6 rfl rfl ?_
  refine wp_ifeq (tgt := 16) dX11_fits_7 (by decide) ⟨fun q => ?_, fun q => ?_⟩
  · replace h := h.1 q
    refine wp_iconst (v := nI 0) dX11_fits_16 rfl ?_
    refine wp_istore_n (i := 3) (Lo' := [some (.ref 0), some (.int x1), some (.int y2), some (.int (nI 0)), none, none, none]) dX11_fits_17 rfl (by decide) rfl rfl ?_
    refine wp_iconst (v := nI 0) dX11_fits_18 rfl ?_
    refine wp_istore (i := 4) (Lo' := [some (.ref 0), some (.int x1), some (.int y2), some (.int (nI 0)), some (.int (nI 0)), none, none]) dX11_fits_19 (by decide) rfl rfl ?_
    exact wp_mask [true, true, false, true, true, false, false] h
  · replace h := h.2 q
    refine wp_aload_n (i := 0) dX11_fits_10 rfl rfl ?_
    refine wp_iload_n (i := 2) dX11_fits_11 rfl rfl ?_
    refine wp_callVI (vs := [.int y2]) (rest := []) dX11_fits_12 mV_X11_error lm_X11_86 hR_0 rfl rfl rfl (Nat.le_of_ble_eq_true rfl) (CallI.mono h (fun y4 σ3 h => ?_))
    exact wp_ireturn dX11_fits_15 rfl ⟨_, rfl, h⟩
set_option maxRecDepth 20000 in
set_option maxHeartbeats 2000000 in
theorem vc_Md_begins {E : KE} {d : Nat} {x1 : Int32} {σ : Sg} {K : Sg → Prop} (h : ((nI 30) ≤ (σ 0 22) → K σ) ∧ (¬ (nI 30) ≤ (σ 0 22) → vp_in (σ 0 22) 30 ∧ (∀ σ1, σ1 = k_put σ 14 (upd (σ 14) (σ 0 22).toNatClampNeg x1) → ∀ σ3, σ3 = k_put σ1 0 (upd (σ1 0) 22 ((σ1 0 22) + (nI 1))) → K σ3))) : CallN E shR d mX11_begins [.ref 0, .int x1] σ K := by
  refine wp_enter (Lo := [some (.ref 0), some (.int x1)]) mp_X11_begins (Nat.le_of_ble_eq_true rfl) rfl ?_
  refine wp_aload_n (i := 0) dX11_begins_0 rfl rfl ?_
  refine wp_getI dX11_begins_1 lf_X11_235 hR_0 rfl ?_
  refine wp_bipush (v := nI 30) dX11_begins_4 (by decide) ?_
  refine wp_icmpge (tgt := 29) dX11_begins_6 (by decide) ⟨fun q => ?_, fun q => ?_⟩
  · replace h := h.1 q
    exact wp_return dX11_begins_29 rfl ⟨rfl, h⟩
  · replace h := h.2 q
    refine wp_aload_n (i := 0) dX11_begins_9 rfl rfl ?_
    refine wp_getR (t := 14) dX11_begins_10 lf_X11_49 hR_0 rfl ?_
    refine wp_aload_n (i := 0) dX11_begins_13 rfl rfl ?_
    refine wp_getI dX11_begins_14 lf_X11_235 hR_0 rfl ?_
    refine wp_iload_n (i := 1) dX11_begins_17 rfl rfl ?_
    refine wp_iast dX11_begins_18 hR_14 ⟨h.1, ?_⟩
    refine wp_nm (fun σ1 e2 => ?_)
    replace h := h.2 σ1 e2
    refine wp_aload_n (i := 0) dX11_begins_19 rfl rfl ?_
    refine wp_dup dX11_begins_20 rfl ?_
    refine wp_getI dX11_begins_21 lf_X11_235 hR_0 rfl ?_
    refine wp_iconst (v := nI 1) dX11_begins_24 rfl ?_
    refine wp_iadd dX11_begins_25 ?_
    refine wp_put dX11_begins_26 lp_X11_235 hR_0 rfl ⟨⟨rfl, rfl⟩, ?_⟩
    refine wp_nm (fun σ3 e4 => ?_)
    replace h := h σ3 e4
    exact wp_return dX11_begins_29 rfl ⟨rfl, h⟩
set_option maxRecDepth 20000 in
set_option maxHeartbeats 2000000 in
theorem vc_Md_plainParts {E : KE} {d : Nat} {x1 : Int32} {x2 : Int32} {σ : Sg} {K : Int32 → Sg → Prop} (h : CallN E shR d mX11_begins [.ref 0, .int (nI 13)] σ (fun σ1 => CallI E shR d mX11_of [.ref 0, .int x1, .int (nI 1)] σ1 (fun y3 σ2 => (¬ (y3 - x1) = 0 → ∀ σ4, σ4 = k_put σ2 0 (upd (σ2 0) 23 (nI 0)) → ((σ4 0 23) = 0 → ¬ (y3 - x1) = 0 ∧ (K (x2 / (y3 - x1)) σ4)) ∧ (¬ (σ4 0 23) = 0 → K (nI 0) σ4)) ∧ ((y3 - x1) = 0 → ∀ σ6, σ6 = k_put σ2 0 (upd (σ2 0) 23 (nI 1)) → ((σ6 0 23) = 0 → ¬ (y3 - x1) = 0 ∧ (K (x2 / (y3 - x1)) σ6)) ∧ (¬ (σ6 0 23) = 0 → K (nI 0) σ6))))) : CallI E shR (d + 1) mX11_plainParts [.ref 0, .int x1, .int x2] σ K := by
  refine wp_enter (Lo := [some (.ref 0), some (.int x1), some (.int x2), none]) mp_X11_plainParts (Nat.le_of_ble_eq_true rfl) rfl ?_
  refine wp_aload_n (i := 0) dX11_plainParts_0 rfl rfl ?_
  refine wp_bipush (v := nI 13) dX11_plainParts_1 (by decide) ?_
  refine wp_callVN (vs := [.int (nI 13)]) (rest := []) dX11_plainParts_3 mV_X11_begins lm_X11_238 hR_0 rfl rfl rfl (Nat.le_of_ble_eq_true rfl) (CallN.mono h (fun σ1 h => ?_))
  refine wp_aload_n (i := 0) dX11_plainParts_6 rfl rfl ?_
  refine wp_iload_n (i := 1) dX11_plainParts_7 rfl rfl ?_
  refine wp_iconst (v := nI 1) dX11_plainParts_8 rfl ?_
  refine wp_callVI (vs := [.int x1, .int (nI 1)]) (rest := []) dX11_plainParts_9 mV_X11_of lm_X11_65 hR_0 rfl rfl rfl (Nat.le_of_ble_eq_true rfl) (CallI.mono h (fun y3 σ2 h => ?_))
  refine wp_iload_n (i := 1) dX11_plainParts_12 rfl rfl ?_
  refine wp_isub dX11_plainParts_13 ?_
  refine wp_istore_n (i := 3) (Lo' := [some (.ref 0), some (.int x1), some (.int x2), some (.int (y3 - x1))]) dX11_plainParts_14 rfl (by decide) rfl rfl ?_
  refine wp_aload_n (i := 0) dX11_plainParts_15 rfl rfl ?_
  refine wp_iload_n (i := 3) dX11_plainParts_16 rfl rfl ?_
  refine wp_ifne (tgt := 24) dX11_plainParts_17 (by decide) ⟨fun q => ?_, fun q => ?_⟩
  · replace h := h.1 q
    refine wp_iconst (v := nI 0) dX11_plainParts_24 rfl ?_
    refine wp_put dX11_plainParts_25 lp_X11_262 hR_0 rfl ⟨⟨rfl, rfl⟩, ?_⟩
    refine wp_nm (fun σ4 e5 => ?_)
    replace h := h σ4 e5
    refine wp_aload_n (i := 0) dX11_plainParts_28 rfl rfl ?_
    refine wp_getI dX11_plainParts_29 lf_X11_262 hR_0 rfl ?_
    refine wp_ifeq (tgt := 39) dX11_plainParts_32 (by decide) ⟨fun q => ?_, fun q => ?_⟩
    · replace h := h.1 q
      refine wp_iload_n (i := 2) dX11_plainParts_39 rfl rfl ?_
      refine wp_iload_n (i := 3) dX11_plainParts_40 rfl rfl ?_
      refine wp_idiv dX11_plainParts_41 ⟨h.1, ?_⟩
      replace h := h.2
      exact wp_ireturn dX11_plainParts_42 rfl ⟨_, rfl, h⟩
    · replace h := h.2 q
      refine wp_iconst (v := nI 0) dX11_plainParts_35 rfl ?_
      refine wp_goto (tgt := 42) dX11_plainParts_36 (by decide) ?_
      exact wp_ireturn dX11_plainParts_42 rfl ⟨_, rfl, h⟩
  · replace h := h.2 q
    refine wp_iconst (v := nI 1) dX11_plainParts_20 rfl ?_
    refine wp_goto (tgt := 25) dX11_plainParts_21 (by decide) ?_
    refine wp_put dX11_plainParts_25 lp_X11_262 hR_0 rfl ⟨⟨rfl, rfl⟩, ?_⟩
    refine wp_nm (fun σ6 e7 => ?_)
    replace h := h σ6 e7
    refine wp_aload_n (i := 0) dX11_plainParts_28 rfl rfl ?_
    refine wp_getI dX11_plainParts_29 lf_X11_262 hR_0 rfl ?_
    refine wp_ifeq (tgt := 39) dX11_plainParts_32 (by decide) ⟨fun q => ?_, fun q => ?_⟩
    · replace h := h.1 q
      refine wp_iload_n (i := 2) dX11_plainParts_39 rfl rfl ?_
      refine wp_iload_n (i := 3) dX11_plainParts_40 rfl rfl ?_
      refine wp_idiv dX11_plainParts_41 ⟨h.1, ?_⟩
      replace h := h.2
      exact wp_ireturn dX11_plainParts_42 rfl ⟨_, rfl, h⟩
    · replace h := h.2 q
      refine wp_iconst (v := nI 0) dX11_plainParts_35 rfl ?_
      refine wp_goto (tgt := 42) dX11_plainParts_36 (by decide) ?_
      exact wp_ireturn dX11_plainParts_42 rfl ⟨_, rfl, h⟩
set_option maxRecDepth 20000 in
set_option maxHeartbeats 2000000 in
theorem vc_Md_plainYawns {E : KE} {d : Nat} {x1 : Int32} {x2 : Int32} {σ : Sg} {K : Int32 → Sg → Prop} (h : CallN E shR d mX11_begins [.ref 0, .int (nI 10)] σ (fun σ1 => K (x2 + x1) σ1)) : CallI E shR (d + 1) mX11_plainYawns [.ref 0, .int x1, .int x2] σ K := by
  refine wp_enter (Lo := [some (.ref 0), some (.int x1), some (.int x2)]) mp_X11_plainYawns (Nat.le_of_ble_eq_true rfl) rfl ?_
  refine wp_aload_n (i := 0) dX11_plainYawns_0 rfl rfl ?_
  refine wp_bipush (v := nI 10) dX11_plainYawns_1 (by decide) ?_
  refine wp_callVN (vs := [.int (nI 10)]) (rest := []) dX11_plainYawns_3 mV_X11_begins lm_X11_238 hR_0 rfl rfl rfl (Nat.le_of_ble_eq_true rfl) (CallN.mono h (fun σ1 h => ?_))
  refine wp_iload_n (i := 2) dX11_plainYawns_6 rfl rfl ?_
  refine wp_iload_n (i := 1) dX11_plainYawns_7 rfl rfl ?_
  refine wp_iadd dX11_plainYawns_8 ?_
  exact wp_ireturn dX11_plainYawns_9 rfl ⟨_, rfl, h⟩
set_option maxRecDepth 20000 in
set_option maxHeartbeats 2000000 in
theorem vc_Md_studentYawns {E : KE} {d : Nat} {x1 : Int32} {x2 : Int32} {σ : Sg} {K : Int32 → Sg → Prop} (h : CallN E shR d mX11_begins [.ref 0, .int (nI 20)] σ (fun σ1 => CallI E shR d mX11_plainYawns [.ref 0, .int x1, .int x2] σ1 (fun y3 σ2 => K (y3 - (nI 4)) σ2))) : CallI E shR (d + 1) mX11_studentYawns [.ref 0, .int x1, .int x2] σ K := by
  refine wp_enter (Lo := [some (.ref 0), some (.int x1), some (.int x2)]) mp_X11_studentYawns (Nat.le_of_ble_eq_true rfl) rfl ?_
  refine wp_aload_n (i := 0) dX11_studentYawns_0 rfl rfl ?_
  refine wp_bipush (v := nI 20) dX11_studentYawns_1 (by decide) ?_
  refine wp_callVN (vs := [.int (nI 20)]) (rest := []) dX11_studentYawns_3 mV_X11_begins lm_X11_238 hR_0 rfl rfl rfl (Nat.le_of_ble_eq_true rfl) (CallN.mono h (fun σ1 h => ?_))
  refine wp_aload_n (i := 0) dX11_studentYawns_6 rfl rfl ?_
  refine wp_iload_n (i := 1) dX11_studentYawns_7 rfl rfl ?_
  refine wp_iload_n (i := 2) dX11_studentYawns_8 rfl rfl ?_
  refine wp_callVI (vs := [.int x1, .int x2]) (rest := []) dX11_studentYawns_9 mV_X11_plainYawns lm_X11_241 hR_0 rfl rfl rfl (Nat.le_of_ble_eq_true rfl) (CallI.mono h (fun y3 σ2 h => ?_))
  refine wp_iconst (v := nI 4) dX11_studentYawns_12 rfl ?_
  refine wp_isub dX11_studentYawns_13 ?_
  exact wp_ireturn dX11_studentYawns_14 rfl ⟨_, rfl, h⟩
set_option maxRecDepth 20000 in
set_option maxHeartbeats 2000000 in
theorem vc_Md_yawns {E : KE} {d : Nat} {x1 : Int32} {x2 : Int32} {σ : Sg} {K : Int32 → Sg → Prop} (h : CallI E shR d mX11_of [.ref 0, .int x1, .int (nI 0)] σ (fun y2 σ1 => (y2 = nI 1 → CallI E shR d mX11_studentYawns [.ref 0, .int x1, .int x2] σ1 (fun y6 σ5 => K y6 σ5)) ∧ (y2 = nI 4 → CallN E shR d mX11_begins [.ref 0, .int (nI 50)] σ1 (fun σ7 => CallI E shR d mX11_studentYawns [.ref 0, .int x1, .int x2] σ7 (fun y9 σ8 => K (y9 * (nI 3)) σ8))) ∧ (y2 = nI 6 → CallN E shR d mX11_begins [.ref 0, .int (nI 70)] σ1 (fun σ10 => K (nI 9) σ10)) ∧ (¬ y2 = nI 1 → ¬ y2 = nI 4 → ¬ y2 = nI 6 → CallI E shR d mX11_plainYawns [.ref 0, .int x1, .int x2] σ1 (fun y4 σ3 => K y4 σ3)))) : CallI E shR (d + 1) mX11_yawns [.ref 0, .int x1, .int x2] σ K := by
  refine wp_enter (Lo := [some (.ref 0), some (.int x1), some (.int x2)]) mp_X11_yawns (Nat.le_of_ble_eq_true rfl) rfl ?_
  refine wp_aload_n (i := 0) dX11_yawns_0 rfl rfl ?_
  refine wp_iload_n (i := 1) dX11_yawns_1 rfl rfl ?_
  refine wp_iconst (v := nI 0) dX11_yawns_2 rfl ?_
  refine wp_callVI (vs := [.int x1, .int (nI 0)]) (rest := []) dX11_yawns_3 mV_X11_of lm_X11_65 hR_0 rfl rfl rfl (Nat.le_of_ble_eq_true rfl) (CallI.mono h (fun y2 σ1 h => ?_))
  rcases Classical.em (y2 = nI 1) with q0 | q0
  · replace h := h.1 q0
    refine wp_lsw (off := 34) (tgt := 40) dX11_yawns_6 (by decide) (by rw [q0]; decide) (by decide) ?_
    refine wp_aload_n (i := 0) dX11_yawns_40 rfl rfl ?_
    refine wp_iload_n (i := 1) dX11_yawns_41 rfl rfl ?_
    refine wp_iload_n (i := 2) dX11_yawns_42 rfl rfl ?_
    refine wp_callVI (vs := [.int x1, .int x2]) (rest := []) dX11_yawns_43 mV_X11_studentYawns lm_X11_244 hR_0 rfl rfl rfl (Nat.le_of_ble_eq_true rfl) (CallI.mono h (fun y6 σ5 h => ?_))
    exact wp_ireturn dX11_yawns_46 rfl ⟨_, rfl, h⟩
  rcases Classical.em (y2 = nI 4) with q1 | q1
  · replace h := h.2.1 q1
    refine wp_lsw (off := 41) (tgt := 47) dX11_yawns_6 (by decide) (by rw [q1]; decide) (by decide) ?_
    refine wp_aload_n (i := 0) dX11_yawns_47 rfl rfl ?_
    refine wp_bipush (v := nI 50) dX11_yawns_48 (by decide) ?_
    refine wp_callVN (vs := [.int (nI 50)]) (rest := []) dX11_yawns_50 mV_X11_begins lm_X11_238 hR_0 rfl rfl rfl (Nat.le_of_ble_eq_true rfl) (CallN.mono h (fun σ7 h => ?_))
    refine wp_aload_n (i := 0) dX11_yawns_53 rfl rfl ?_
    refine wp_iload_n (i := 1) dX11_yawns_54 rfl rfl ?_
    refine wp_iload_n (i := 2) dX11_yawns_55 rfl rfl ?_
    refine wp_callVI (vs := [.int x1, .int x2]) (rest := []) dX11_yawns_56 mV_X11_studentYawns lm_X11_244 hR_0 rfl rfl rfl (Nat.le_of_ble_eq_true rfl) (CallI.mono h (fun y9 σ8 h => ?_))
    refine wp_iconst (v := nI 3) dX11_yawns_59 rfl ?_
    refine wp_imul dX11_yawns_60 ?_
    exact wp_ireturn dX11_yawns_61 rfl ⟨_, rfl, h⟩
  rcases Classical.em (y2 = nI 6) with q2 | q2
  · replace h := h.2.2.1 q2
    refine wp_lsw (off := 56) (tgt := 62) dX11_yawns_6 (by decide) (by rw [q2]; decide) (by decide) ?_
    refine wp_aload_n (i := 0) dX11_yawns_62 rfl rfl ?_
    refine wp_bipush (v := nI 70) dX11_yawns_63 (by decide) ?_
    refine wp_callVN (vs := [.int (nI 70)]) (rest := []) dX11_yawns_65 mV_X11_begins lm_X11_238 hR_0 rfl rfl rfl (Nat.le_of_ble_eq_true rfl) (CallN.mono h (fun σ10 h => ?_))
    refine wp_bipush (v := nI 9) dX11_yawns_68 (by decide) ?_
    exact wp_ireturn dX11_yawns_70 rfl ⟨_, rfl, h⟩
  replace h := h.2.2.2 q0 q1 q2
  refine wp_lsw (off := 65) (tgt := 71) dX11_yawns_6 (by decide) ((lv_osw q0 (show ((nI 1) : Int32).toInt = 1 by decide)).trans ((lv_osw q1 (show ((nI 4) : Int32).toInt = 4 by decide)).trans ((lv_osw q2 (show ((nI 6) : Int32).toInt = 6 by decide)).trans rfl))) (by decide) ?_
  refine wp_aload_n (i := 0) dX11_yawns_71 rfl rfl ?_
  refine wp_iload_n (i := 1) dX11_yawns_72 rfl rfl ?_
  refine wp_iload_n (i := 2) dX11_yawns_73 rfl rfl ?_
  refine wp_callVI (vs := [.int x1, .int x2]) (rest := []) dX11_yawns_74 mV_X11_plainYawns lm_X11_241 hR_0 rfl rfl rfl (Nat.le_of_ble_eq_true rfl) (CallI.mono h (fun y4 σ3 h => ?_))
  exact wp_ireturn dX11_yawns_77 rfl ⟨_, rfl, h⟩
set_option maxRecDepth 20000 in
set_option maxHeartbeats 2000000 in
theorem vc_Md_plainTrades {E : KE} {d : Nat} {x1 : Int32} {x2 : Int32} {σ : Sg} {K : Int32 → Sg → Prop} (h : CallN E shR d mX11_begins [.ref 0, .int (nI 11)] σ (fun σ1 => CallI E shR d mX11_yawns [.ref 0, .int x1, .int x2] σ1 (fun y3 σ2 => K (y3 * (nI 2)) σ2))) : CallI E shR (d + 1) mX11_plainTrades [.ref 0, .int x1, .int x2] σ K := by
  refine wp_enter (Lo := [some (.ref 0), some (.int x1), some (.int x2)]) mp_X11_plainTrades (Nat.le_of_ble_eq_true rfl) rfl ?_
  refine wp_aload_n (i := 0) dX11_plainTrades_0 rfl rfl ?_
  refine wp_bipush (v := nI 11) dX11_plainTrades_1 (by decide) ?_
  refine wp_callVN (vs := [.int (nI 11)]) (rest := []) dX11_plainTrades_3 mV_X11_begins lm_X11_238 hR_0 rfl rfl rfl (Nat.le_of_ble_eq_true rfl) (CallN.mono h (fun σ1 h => ?_))
  refine wp_aload_n (i := 0) dX11_plainTrades_6 rfl rfl ?_
  refine wp_iload_n (i := 1) dX11_plainTrades_7 rfl rfl ?_
  refine wp_iload_n (i := 2) dX11_plainTrades_8 rfl rfl ?_
  refine wp_callVI (vs := [.int x1, .int x2]) (rest := []) dX11_plainTrades_9 mV_X11_yawns lm_X11_247 hR_0 rfl rfl rfl (Nat.le_of_ble_eq_true rfl) (CallI.mono h (fun y3 σ2 h => ?_))
  refine wp_iconst (v := nI 2) dX11_plainTrades_12 rfl ?_
  refine wp_imul dX11_plainTrades_13 ?_
  exact wp_ireturn dX11_plainTrades_14 rfl ⟨_, rfl, h⟩
set_option maxRecDepth 20000 in
set_option maxHeartbeats 2000000 in
theorem vc_Md_widowTrades {E : KE} {d : Nat} {x1 : Int32} {x2 : Int32} {σ : Sg} {K : Int32 → Sg → Prop} (h : CallN E shR d mX11_begins [.ref 0, .int (nI 30)] σ (fun σ1 => CallI E shR d mX11_plainTrades [.ref 0, .int x1, .int x2] σ1 (fun y3 σ2 => K (-y3) σ2))) : CallI E shR (d + 1) mX11_widowTrades [.ref 0, .int x1, .int x2] σ K := by
  refine wp_enter (Lo := [some (.ref 0), some (.int x1), some (.int x2)]) mp_X11_widowTrades (Nat.le_of_ble_eq_true rfl) rfl ?_
  refine wp_aload_n (i := 0) dX11_widowTrades_0 rfl rfl ?_
  refine wp_bipush (v := nI 30) dX11_widowTrades_1 (by decide) ?_
  refine wp_callVN (vs := [.int (nI 30)]) (rest := []) dX11_widowTrades_3 mV_X11_begins lm_X11_238 hR_0 rfl rfl rfl (Nat.le_of_ble_eq_true rfl) (CallN.mono h (fun σ1 h => ?_))
  refine wp_aload_n (i := 0) dX11_widowTrades_6 rfl rfl ?_
  refine wp_iload_n (i := 1) dX11_widowTrades_7 rfl rfl ?_
  refine wp_iload_n (i := 2) dX11_widowTrades_8 rfl rfl ?_
  refine wp_callVI (vs := [.int x1, .int x2]) (rest := []) dX11_widowTrades_9 mV_X11_plainTrades lm_X11_250 hR_0 rfl rfl rfl (Nat.le_of_ble_eq_true rfl) (CallI.mono h (fun y3 σ2 h => ?_))
  refine wp_ineg dX11_widowTrades_12 ?_
  exact wp_ireturn dX11_widowTrades_13 rfl ⟨_, rfl, h⟩
set_option maxRecDepth 20000 in
set_option maxHeartbeats 2000000 in
theorem vc_Md_trades {E : KE} {d : Nat} {x1 : Int32} {x2 : Int32} {σ : Sg} {K : Int32 → Sg → Prop} (h : CallI E shR d mX11_of [.ref 0, .int x1, .int (nI 0)] σ (fun y2 σ1 => (y2 = nI 2 → CallI E shR d mX11_widowTrades [.ref 0, .int x1, .int x2] σ1 (fun y6 σ5 => K y6 σ5)) ∧ (y2 = nI 5 → CallN E shR d mX11_begins [.ref 0, .int (nI 60)] σ1 (fun σ7 => CallI E shR d mX11_widowTrades [.ref 0, .int x1, .int (x2 + (nI 1))] σ7 (fun y9 σ8 => K y9 σ8))) ∧ (y2 = nI 6 → CallN E shR d mX11_begins [.ref 0, .int (nI 71)] σ1 (fun σ10 => CallI E shR d mX11_plainTrades [.ref 0, .int x1, .int x2] σ10 (fun y12 σ11 => CallI E shR d mX11_of [.ref 0, .int x1, .int (nI 1)] σ11 (fun y14 σ13 => K (y12 + y14) σ13)))) ∧ (¬ y2 = nI 2 → ¬ y2 = nI 5 → ¬ y2 = nI 6 → CallI E shR d mX11_plainTrades [.ref 0, .int x1, .int x2] σ1 (fun y4 σ3 => K y4 σ3)))) : CallI E shR (d + 1) mX11_trades [.ref 0, .int x1, .int x2] σ K := by
  refine wp_enter (Lo := [some (.ref 0), some (.int x1), some (.int x2)]) mp_X11_trades (Nat.le_of_ble_eq_true rfl) rfl ?_
  refine wp_aload_n (i := 0) dX11_trades_0 rfl rfl ?_
  refine wp_iload_n (i := 1) dX11_trades_1 rfl rfl ?_
  refine wp_iconst (v := nI 0) dX11_trades_2 rfl ?_
  refine wp_callVI (vs := [.int x1, .int (nI 0)]) (rest := []) dX11_trades_3 mV_X11_of lm_X11_65 hR_0 rfl rfl rfl (Nat.le_of_ble_eq_true rfl) (CallI.mono h (fun y2 σ1 h => ?_))
  rcases Classical.em (y2 = nI 2) with q0 | q0
  · replace h := h.1 q0
    refine wp_tswIn (off := 34) (tgt := 40) dX11_trades_6 (by rw [q0]; decide) (by rw [q0]; decide) (by rw [q0]; rfl) (by decide) ?_
    refine wp_aload_n (i := 0) dX11_trades_40 rfl rfl ?_
    refine wp_iload_n (i := 1) dX11_trades_41 rfl rfl ?_
    refine wp_iload_n (i := 2) dX11_trades_42 rfl rfl ?_
    refine wp_callVI (vs := [.int x1, .int x2]) (rest := []) dX11_trades_43 mV_X11_widowTrades lm_X11_253 hR_0 rfl rfl rfl (Nat.le_of_ble_eq_true rfl) (CallI.mono h (fun y6 σ5 h => ?_))
    exact wp_ireturn dX11_trades_46 rfl ⟨_, rfl, h⟩
  rcases Classical.em (y2 = nI 5) with q1 | q1
  · replace h := h.2.1 q1
    refine wp_tswIn (off := 41) (tgt := 47) dX11_trades_6 (by rw [q1]; decide) (by rw [q1]; decide) (by rw [q1]; rfl) (by decide) ?_
    refine wp_aload_n (i := 0) dX11_trades_47 rfl rfl ?_
    refine wp_bipush (v := nI 60) dX11_trades_48 (by decide) ?_
    refine wp_callVN (vs := [.int (nI 60)]) (rest := []) dX11_trades_50 mV_X11_begins lm_X11_238 hR_0 rfl rfl rfl (Nat.le_of_ble_eq_true rfl) (CallN.mono h (fun σ7 h => ?_))
    refine wp_aload_n (i := 0) dX11_trades_53 rfl rfl ?_
    refine wp_iload_n (i := 1) dX11_trades_54 rfl rfl ?_
    refine wp_iload_n (i := 2) dX11_trades_55 rfl rfl ?_
    refine wp_iconst (v := nI 1) dX11_trades_56 rfl ?_
    refine wp_iadd dX11_trades_57 ?_
    refine wp_callVI (vs := [.int x1, .int (x2 + (nI 1))]) (rest := []) dX11_trades_58 mV_X11_widowTrades lm_X11_253 hR_0 rfl rfl rfl (Nat.le_of_ble_eq_true rfl) (CallI.mono h (fun y9 σ8 h => ?_))
    exact wp_ireturn dX11_trades_61 rfl ⟨_, rfl, h⟩
  rcases Classical.em (y2 = nI 6) with q2 | q2
  · replace h := h.2.2.1 q2
    refine wp_tswIn (off := 56) (tgt := 62) dX11_trades_6 (by rw [q2]; decide) (by rw [q2]; decide) (by rw [q2]; rfl) (by decide) ?_
    refine wp_aload_n (i := 0) dX11_trades_62 rfl rfl ?_
    refine wp_bipush (v := nI 71) dX11_trades_63 (by decide) ?_
    refine wp_callVN (vs := [.int (nI 71)]) (rest := []) dX11_trades_65 mV_X11_begins lm_X11_238 hR_0 rfl rfl rfl (Nat.le_of_ble_eq_true rfl) (CallN.mono h (fun σ10 h => ?_))
    refine wp_aload_n (i := 0) dX11_trades_68 rfl rfl ?_
    refine wp_iload_n (i := 1) dX11_trades_69 rfl rfl ?_
    refine wp_iload_n (i := 2) dX11_trades_70 rfl rfl ?_
    refine wp_callVI (vs := [.int x1, .int x2]) (rest := []) dX11_trades_71 mV_X11_plainTrades lm_X11_250 hR_0 rfl rfl rfl (Nat.le_of_ble_eq_true rfl) (CallI.mono h (fun y12 σ11 h => ?_))
    refine wp_aload_n (i := 0) dX11_trades_74 rfl rfl ?_
    refine wp_iload_n (i := 1) dX11_trades_75 rfl rfl ?_
    refine wp_iconst (v := nI 1) dX11_trades_76 rfl ?_
    refine wp_callVI (vs := [.int x1, .int (nI 1)]) (rest := [.int y12]) dX11_trades_77 mV_X11_of lm_X11_65 hR_0 rfl rfl rfl (Nat.le_of_ble_eq_true rfl) (CallI.mono h (fun y14 σ13 h => ?_))
    refine wp_iadd dX11_trades_80 ?_
    exact wp_ireturn dX11_trades_81 rfl ⟨_, rfl, h⟩
  rcases Classical.em (y2 = nI 3) with q3 | q3
  · replace h := h.2.2.2 q0 q1 q2
    refine wp_tswIn (off := 76) (tgt := 82) dX11_trades_6 (by rw [q3]; decide) (by rw [q3]; decide) (by rw [q3]; rfl) (by decide) ?_
    refine wp_aload_n (i := 0) dX11_trades_82 rfl rfl ?_
    refine wp_iload_n (i := 1) dX11_trades_83 rfl rfl ?_
    refine wp_iload_n (i := 2) dX11_trades_84 rfl rfl ?_
    refine wp_callVI (vs := [.int x1, .int x2]) (rest := []) dX11_trades_85 mV_X11_plainTrades lm_X11_250 hR_0 rfl rfl rfl (Nat.le_of_ble_eq_true rfl) (CallI.mono h (fun y4 σ3 h => ?_))
    exact wp_ireturn dX11_trades_88 rfl ⟨_, rfl, h⟩
  rcases Classical.em (y2 = nI 4) with q4 | q4
  · replace h := h.2.2.2 q0 q1 q2
    refine wp_tswIn (off := 76) (tgt := 82) dX11_trades_6 (by rw [q4]; decide) (by rw [q4]; decide) (by rw [q4]; rfl) (by decide) ?_
    refine wp_aload_n (i := 0) dX11_trades_82 rfl rfl ?_
    refine wp_iload_n (i := 1) dX11_trades_83 rfl rfl ?_
    refine wp_iload_n (i := 2) dX11_trades_84 rfl rfl ?_
    refine wp_callVI (vs := [.int x1, .int x2]) (rest := []) dX11_trades_85 mV_X11_plainTrades lm_X11_250 hR_0 rfl rfl rfl (Nat.le_of_ble_eq_true rfl) (CallI.mono h (fun y4 σ3 h => ?_))
    exact wp_ireturn dX11_trades_88 rfl ⟨_, rfl, h⟩
  have nq0 := lv_neT q0 (show ((nI 2) : Int32).toInt = 2 by decide)
  have nq1 := lv_neT q1 (show ((nI 5) : Int32).toInt = 5 by decide)
  have nq2 := lv_neT q2 (show ((nI 6) : Int32).toInt = 6 by decide)
  have nq3 := lv_neT q3 (show ((nI 3) : Int32).toInt = 3 by decide)
  have nq4 := lv_neT q4 (show ((nI 4) : Int32).toInt = 4 by decide)
  replace h := h.2.2.2 q0 q1 q2
  refine wp_tswOut (tgt := 82) dX11_trades_6 (by omega) (by decide) ?_
  refine wp_aload_n (i := 0) dX11_trades_82 rfl rfl ?_
  refine wp_iload_n (i := 1) dX11_trades_83 rfl rfl ?_
  refine wp_iload_n (i := 2) dX11_trades_84 rfl rfl ?_
  refine wp_callVI (vs := [.int x1, .int x2]) (rest := []) dX11_trades_85 mV_X11_plainTrades lm_X11_250 hR_0 rfl rfl rfl (Nat.le_of_ble_eq_true rfl) (CallI.mono h (fun y4 σ3 h => ?_))
  exact wp_ireturn dX11_trades_88 rfl ⟨_, rfl, h⟩
set_option maxRecDepth 20000 in
set_option maxHeartbeats 2000000 in
theorem vc_Md_parts {E : KE} {d : Nat} {x1 : Int32} {x2 : Int32} {σ : Sg} {K : Int32 → Sg → Prop} (h : CallI E shR d mX11_of [.ref 0, .int x1, .int (nI 0)] σ (fun y2 σ1 => (y2 = (nI 1) → CallN E shR d mX11_begins [.ref 0, .int (nI 21)] σ1 (fun σ3 => CallI E shR d mX11_plainParts [.ref 0, .int x1, .int x2] σ3 (fun y5 σ4 => ((σ4 0 23) = 0 → CallI E shR d mX11_trades [.ref 0, .int x1, .int (nI 1)] σ4 (fun y7 σ6 => K (y5 + y7) σ6)) ∧ (¬ (σ4 0 23) = 0 → K (nI 0) σ4)))) ∧ (¬ y2 = (nI 1) → CallI E shR d mX11_of [.ref 0, .int x1, .int (nI 0)] σ1 (fun y9 σ8 => (¬ y9 = (nI 4) → CallI E shR d mX11_plainParts [.ref 0, .int x1, .int x2] σ8 (fun y11 σ10 => K y11 σ10)) ∧ (y9 = (nI 4) → CallN E shR d mX11_begins [.ref 0, .int (nI 21)] σ8 (fun σ12 => CallI E shR d mX11_plainParts [.ref 0, .int x1, .int x2] σ12 (fun y14 σ13 => ((σ13 0 23) = 0 → CallI E shR d mX11_trades [.ref 0, .int x1, .int (nI 1)] σ13 (fun y16 σ15 => K (y14 + y16) σ15)) ∧ (¬ (σ13 0 23) = 0 → K (nI 0) σ13)))))))) : CallI E shR (d + 1) mX11_parts [.ref 0, .int x1, .int x2] σ K := by
  refine wp_enter (Lo := [some (.ref 0), some (.int x1), some (.int x2), none]) mp_X11_parts (Nat.le_of_ble_eq_true rfl) rfl ?_
  refine wp_aload_n (i := 0) dX11_parts_0 rfl rfl ?_
  refine wp_iload_n (i := 1) dX11_parts_1 rfl rfl ?_
  refine wp_iconst (v := nI 0) dX11_parts_2 rfl ?_
  refine wp_callVI (vs := [.int x1, .int (nI 0)]) (rest := []) dX11_parts_3 mV_X11_of lm_X11_65 hR_0 rfl rfl rfl (Nat.le_of_ble_eq_true rfl) (CallI.mono h (fun y2 σ1 h => ?_))
  refine wp_iconst (v := nI 1) dX11_parts_6 rfl ?_
  refine wp_icmpeq (tgt := 20) dX11_parts_7 (by decide) ⟨fun q => ?_, fun q => ?_⟩
  · replace h := h.1 q
    refine wp_aload_n (i := 0) dX11_parts_20 rfl rfl ?_
    refine wp_bipush (v := nI 21) dX11_parts_21 (by decide) ?_
    refine wp_callVN (vs := [.int (nI 21)]) (rest := []) dX11_parts_23 mV_X11_begins lm_X11_238 hR_0 rfl rfl rfl (Nat.le_of_ble_eq_true rfl) (CallN.mono h (fun σ3 h => ?_))
    refine wp_aload_n (i := 0) dX11_parts_26 rfl rfl ?_
    refine wp_iload_n (i := 1) dX11_parts_27 rfl rfl ?_
    refine wp_iload_n (i := 2) dX11_parts_28 rfl rfl ?_
    refine wp_callVI (vs := [.int x1, .int x2]) (rest := []) dX11_parts_29 mV_X11_plainParts lm_X11_265 hR_0 rfl rfl rfl (Nat.le_of_ble_eq_true rfl) (CallI.mono h (fun y5 σ4 h => ?_))
    refine wp_istore_n (i := 3) (Lo' := [some (.ref 0), some (.int x1), some (.int x2), some (.int y5)]) dX11_parts_32 rfl (by decide) rfl rfl ?_
    refine wp_aload_n (i := 0) dX11_parts_33 rfl rfl ?_
    refine wp_getI dX11_parts_34 lf_X11_262 hR_0 rfl ?_
    refine wp_ifeq (tgt := 44) dX11_parts_37 (by decide) ⟨fun q => ?_, fun q => ?_⟩
    · replace h := h.1 q
      refine wp_iload_n (i := 3) dX11_parts_44 rfl rfl ?_
      refine wp_aload_n (i := 0) dX11_parts_45 rfl rfl ?_
      refine wp_iload_n (i := 1) dX11_parts_46 rfl rfl ?_
      refine wp_iconst (v := nI 1) dX11_parts_47 rfl ?_
      refine wp_callVI (vs := [.int x1, .int (nI 1)]) (rest := [.int y5]) dX11_parts_48 mV_X11_trades lm_X11_256 hR_0 rfl rfl rfl (Nat.le_of_ble_eq_true rfl) (CallI.mono h (fun y7 σ6 h => ?_))
      refine wp_iadd dX11_parts_51 ?_
      exact wp_ireturn dX11_parts_52 rfl ⟨_, rfl, h⟩
    · replace h := h.2 q
      refine wp_iconst (v := nI 0) dX11_parts_40 rfl ?_
      refine wp_goto (tgt := 52) dX11_parts_41 (by decide) ?_
      exact wp_ireturn dX11_parts_52 rfl ⟨_, rfl, h⟩
  · replace h := h.2 q
    refine wp_aload_n (i := 0) dX11_parts_10 rfl rfl ?_
    refine wp_iload_n (i := 1) dX11_parts_11 rfl rfl ?_
    refine wp_iconst (v := nI 0) dX11_parts_12 rfl ?_
    refine wp_callVI (vs := [.int x1, .int (nI 0)]) (rest := []) dX11_parts_13 mV_X11_of lm_X11_65 hR_0 rfl rfl rfl (Nat.le_of_ble_eq_true rfl) (CallI.mono h (fun y9 σ8 h => ?_))
    refine wp_iconst (v := nI 4) dX11_parts_16 rfl ?_
    refine wp_icmpne (tgt := 53) dX11_parts_17 (by decide) ⟨fun q => ?_, fun q => ?_⟩
    · replace h := h.1 q
      refine wp_aload_n (i := 0) dX11_parts_53 rfl rfl ?_
      refine wp_iload_n (i := 1) dX11_parts_54 rfl rfl ?_
      refine wp_iload_n (i := 2) dX11_parts_55 rfl rfl ?_
      refine wp_callVI (vs := [.int x1, .int x2]) (rest := []) dX11_parts_56 mV_X11_plainParts lm_X11_265 hR_0 rfl rfl rfl (Nat.le_of_ble_eq_true rfl) (CallI.mono h (fun y11 σ10 h => ?_))
      exact wp_ireturn dX11_parts_59 rfl ⟨_, rfl, h⟩
    · replace h := h.2 q
      refine wp_aload_n (i := 0) dX11_parts_20 rfl rfl ?_
      refine wp_bipush (v := nI 21) dX11_parts_21 (by decide) ?_
      refine wp_callVN (vs := [.int (nI 21)]) (rest := []) dX11_parts_23 mV_X11_begins lm_X11_238 hR_0 rfl rfl rfl (Nat.le_of_ble_eq_true rfl) (CallN.mono h (fun σ12 h => ?_))
      refine wp_aload_n (i := 0) dX11_parts_26 rfl rfl ?_
      refine wp_iload_n (i := 1) dX11_parts_27 rfl rfl ?_
      refine wp_iload_n (i := 2) dX11_parts_28 rfl rfl ?_
      refine wp_callVI (vs := [.int x1, .int x2]) (rest := []) dX11_parts_29 mV_X11_plainParts lm_X11_265 hR_0 rfl rfl rfl (Nat.le_of_ble_eq_true rfl) (CallI.mono h (fun y14 σ13 h => ?_))
      refine wp_istore_n (i := 3) (Lo' := [some (.ref 0), some (.int x1), some (.int x2), some (.int y14)]) dX11_parts_32 rfl (by decide) rfl rfl ?_
      refine wp_aload_n (i := 0) dX11_parts_33 rfl rfl ?_
      refine wp_getI dX11_parts_34 lf_X11_262 hR_0 rfl ?_
      refine wp_ifeq (tgt := 44) dX11_parts_37 (by decide) ⟨fun q => ?_, fun q => ?_⟩
      · replace h := h.1 q
        refine wp_iload_n (i := 3) dX11_parts_44 rfl rfl ?_
        refine wp_aload_n (i := 0) dX11_parts_45 rfl rfl ?_
        refine wp_iload_n (i := 1) dX11_parts_46 rfl rfl ?_
        refine wp_iconst (v := nI 1) dX11_parts_47 rfl ?_
        refine wp_callVI (vs := [.int x1, .int (nI 1)]) (rest := [.int y14]) dX11_parts_48 mV_X11_trades lm_X11_256 hR_0 rfl rfl rfl (Nat.le_of_ble_eq_true rfl) (CallI.mono h (fun y16 σ15 h => ?_))
        refine wp_iadd dX11_parts_51 ?_
        exact wp_ireturn dX11_parts_52 rfl ⟨_, rfl, h⟩
      · replace h := h.2 q
        refine wp_iconst (v := nI 0) dX11_parts_40 rfl ?_
        refine wp_goto (tgt := 52) dX11_parts_41 (by decide) ?_
        exact wp_ireturn dX11_parts_52 rfl ⟨_, rfl, h⟩
set_option maxRecDepth 20000 in
set_option maxHeartbeats 2000000 in
theorem vc_Md_plainAges {E : KE} {d : Nat} {x1 : Int32} {x2 : Int32} {σ : Sg} {K : Int32 → Sg → Prop} (h : CallN E shR d mX11_begins [.ref 0, .int (nI 12)] σ (fun σ1 => CallI E shR d mX11_trades [.ref 0, .int x1, .int x2] σ1 (fun y3 σ2 => CallI E shR d mX11_of [.ref 0, .int x1, .int (nI 1)] σ2 (fun y5 σ4 => K (y3 - y5) σ4)))) : CallI E shR (d + 1) mX11_plainAges [.ref 0, .int x1, .int x2] σ K := by
  refine wp_enter (Lo := [some (.ref 0), some (.int x1), some (.int x2)]) mp_X11_plainAges (Nat.le_of_ble_eq_true rfl) rfl ?_
  refine wp_aload_n (i := 0) dX11_plainAges_0 rfl rfl ?_
  refine wp_bipush (v := nI 12) dX11_plainAges_1 (by decide) ?_
  refine wp_callVN (vs := [.int (nI 12)]) (rest := []) dX11_plainAges_3 mV_X11_begins lm_X11_238 hR_0 rfl rfl rfl (Nat.le_of_ble_eq_true rfl) (CallN.mono h (fun σ1 h => ?_))
  refine wp_aload_n (i := 0) dX11_plainAges_6 rfl rfl ?_
  refine wp_iload_n (i := 1) dX11_plainAges_7 rfl rfl ?_
  refine wp_iload_n (i := 2) dX11_plainAges_8 rfl rfl ?_
  refine wp_callVI (vs := [.int x1, .int x2]) (rest := []) dX11_plainAges_9 mV_X11_trades lm_X11_256 hR_0 rfl rfl rfl (Nat.le_of_ble_eq_true rfl) (CallI.mono h (fun y3 σ2 h => ?_))
  refine wp_aload_n (i := 0) dX11_plainAges_12 rfl rfl ?_
  refine wp_iload_n (i := 1) dX11_plainAges_13 rfl rfl ?_
  refine wp_iconst (v := nI 1) dX11_plainAges_14 rfl ?_
  refine wp_callVI (vs := [.int x1, .int (nI 1)]) (rest := [.int y3]) dX11_plainAges_15 mV_X11_of lm_X11_65 hR_0 rfl rfl rfl (Nat.le_of_ble_eq_true rfl) (CallI.mono h (fun y5 σ4 h => ?_))
  refine wp_isub dX11_plainAges_18 ?_
  exact wp_ireturn dX11_plainAges_19 rfl ⟨_, rfl, h⟩
set_option maxRecDepth 20000 in
set_option maxHeartbeats 2000000 in
theorem vc_Md_ages {E : KE} {d : Nat} {x1 : Int32} {x2 : Int32} {σ : Sg} {K : Int32 → Sg → Prop} (h : CallI E shR d mX11_of [.ref 0, .int x1, .int (nI 0)] σ (fun y2 σ1 => (y2 = nI 3 → CallN E shR d mX11_begins [.ref 0, .int (nI 40)] σ1 (fun σ5 => CallI E shR d mX11_plainAges [.ref 0, .int x1, .int (x2 / (nI 2))] σ5 (fun y7 σ6 => K y7 σ6))) ∧ (y2 = nI 4 → CallN E shR d mX11_begins [.ref 0, .int (nI 51)] σ1 (fun σ8 => CallI E shR d mX11_plainAges [.ref 0, .int x1, .int x2] σ8 (fun y10 σ9 => K (y10 ^^^ x1) σ9))) ∧ (¬ y2 = nI 3 → ¬ y2 = nI 4 → CallI E shR d mX11_plainAges [.ref 0, .int x1, .int x2] σ1 (fun y4 σ3 => K y4 σ3)))) : CallI E shR (d + 1) mX11_ages [.ref 0, .int x1, .int x2] σ K := by
  refine wp_enter (Lo := [some (.ref 0), some (.int x1), some (.int x2)]) mp_X11_ages (Nat.le_of_ble_eq_true rfl) rfl ?_
  refine wp_aload_n (i := 0) dX11_ages_0 rfl rfl ?_
  refine wp_iload_n (i := 1) dX11_ages_1 rfl rfl ?_
  refine wp_iconst (v := nI 0) dX11_ages_2 rfl ?_
  refine wp_callVI (vs := [.int x1, .int (nI 0)]) (rest := []) dX11_ages_3 mV_X11_of lm_X11_65 hR_0 rfl rfl rfl (Nat.le_of_ble_eq_true rfl) (CallI.mono h (fun y2 σ1 h => ?_))
  rcases Classical.em (y2 = nI 3) with q0 | q0
  · replace h := h.1 q0
    refine wp_lsw (off := 26) (tgt := 32) dX11_ages_6 (by decide) (by rw [q0]; decide) (by decide) ?_
    refine wp_aload_n (i := 0) dX11_ages_32 rfl rfl ?_
    refine wp_bipush (v := nI 40) dX11_ages_33 (by decide) ?_
    refine wp_callVN (vs := [.int (nI 40)]) (rest := []) dX11_ages_35 mV_X11_begins lm_X11_238 hR_0 rfl rfl rfl (Nat.le_of_ble_eq_true rfl) (CallN.mono h (fun σ5 h => ?_))
    refine wp_aload_n (i := 0) dX11_ages_38 rfl rfl ?_
    refine wp_iload_n (i := 1) dX11_ages_39 rfl rfl ?_
    refine wp_iload_n (i := 2) dX11_ages_40 rfl rfl ?_
    refine wp_iconst (v := nI 2) dX11_ages_41 rfl ?_
    refine wp_idiv dX11_ages_42 ⟨by decide, ?_⟩
    refine wp_callVI (vs := [.int x1, .int (x2 / (nI 2))]) (rest := []) dX11_ages_43 mV_X11_plainAges lm_X11_259 hR_0 rfl rfl rfl (Nat.le_of_ble_eq_true rfl) (CallI.mono h (fun y7 σ6 h => ?_))
    exact wp_ireturn dX11_ages_46 rfl ⟨_, rfl, h⟩
  rcases Classical.em (y2 = nI 4) with q1 | q1
  · replace h := h.2.1 q1
    refine wp_lsw (off := 41) (tgt := 47) dX11_ages_6 (by decide) (by rw [q1]; decide) (by decide) ?_
    refine wp_aload_n (i := 0) dX11_ages_47 rfl rfl ?_
    refine wp_bipush (v := nI 51) dX11_ages_48 (by decide) ?_
    refine wp_callVN (vs := [.int (nI 51)]) (rest := []) dX11_ages_50 mV_X11_begins lm_X11_238 hR_0 rfl rfl rfl (Nat.le_of_ble_eq_true rfl) (CallN.mono h (fun σ8 h => ?_))
    refine wp_aload_n (i := 0) dX11_ages_53 rfl rfl ?_
    refine wp_iload_n (i := 1) dX11_ages_54 rfl rfl ?_
    refine wp_iload_n (i := 2) dX11_ages_55 rfl rfl ?_
    refine wp_callVI (vs := [.int x1, .int x2]) (rest := []) dX11_ages_56 mV_X11_plainAges lm_X11_259 hR_0 rfl rfl rfl (Nat.le_of_ble_eq_true rfl) (CallI.mono h (fun y10 σ9 h => ?_))
    refine wp_iload_n (i := 1) dX11_ages_59 rfl rfl ?_
    refine wp_ixor dX11_ages_60 ?_
    exact wp_ireturn dX11_ages_61 rfl ⟨_, rfl, h⟩
  replace h := h.2.2 q0 q1
  refine wp_lsw (off := 56) (tgt := 62) dX11_ages_6 (by decide) ((lv_osw q0 (show ((nI 3) : Int32).toInt = 3 by decide)).trans ((lv_osw q1 (show ((nI 4) : Int32).toInt = 4 by decide)).trans rfl)) (by decide) ?_
  refine wp_aload_n (i := 0) dX11_ages_62 rfl rfl ?_
  refine wp_iload_n (i := 1) dX11_ages_63 rfl rfl ?_
  refine wp_iload_n (i := 2) dX11_ages_64 rfl rfl ?_
  refine wp_callVI (vs := [.int x1, .int x2]) (rest := []) dX11_ages_65 mV_X11_plainAges lm_X11_259 hR_0 rfl rfl rfl (Nat.le_of_ble_eq_true rfl) (CallI.mono h (fun y4 σ3 h => ?_))
  exact wp_ireturn dX11_ages_68 rfl ⟨_, rfl, h⟩
set_option maxRecDepth 20000 in
set_option maxHeartbeats 2000000 in
theorem vc_Md_voice {E : KE} {d : Nat} {x1 : Int32} {x2 : Int32} {x3 : Int32} {σ : Sg} {K : Int32 → Sg → Prop} (h : CallI E shR d mX11_isPerson [.ref 0, .int x1] σ (fun y2 σ1 => (y2 = 0 → CallI E shR d mX11_error [.ref 0, .int (-1000000001 : Int32)] σ1 (fun y4 σ3 => K y4 σ3)) ∧ (¬ y2 = 0 → CallI E shR d mX11_in [.int x2, .int (nI 0), .int (nI 3)] σ1 (fun y6 σ5 => (¬ y6 = 0 → ∀ σ7, σ7 = k_put σ5 0 (upd (σ5 0) 22 (nI 0)) → ∀ σ9, σ9 = k_put σ7 0 (upd (σ7 0) 23 (nI 0)) → (¬ x2 = 0 → (¬ x2 = (nI 1) → (¬ x2 = (nI 2) → CallI E shR d mX11_parts [.ref 0, .int x1, .int x3] σ9 (fun y12 σ11 => ((σ11 0 23) = 0 → K y12 σ11) ∧ (¬ (σ11 0 23) = 0 → CallI E shR d mX11_error [.ref 0, .int (-1000000006 : Int32)] σ11 (fun y14 σ13 => K y14 σ13)))) ∧ (x2 = (nI 2) → CallI E shR d mX11_ages [.ref 0, .int x1, .int x3] σ9 (fun y16 σ15 => ((σ15 0 23) = 0 → K y16 σ15) ∧ (¬ (σ15 0 23) = 0 → CallI E shR d mX11_error [.ref 0, .int (-1000000006 : Int32)] σ15 (fun y18 σ17 => K y18 σ17))))) ∧ (x2 = (nI 1) → CallI E shR d mX11_trades [.ref 0, .int x1, .int x3] σ9 (fun y20 σ19 => ((σ19 0 23) = 0 → K y20 σ19) ∧ (¬ (σ19 0 23) = 0 → CallI E shR d mX11_error [.ref 0, .int (-1000000006 : Int32)] σ19 (fun y22 σ21 => K y22 σ21))))) ∧ (x2 = 0 → CallI E shR d mX11_yawns [.ref 0, .int x1, .int x3] σ9 (fun y24 σ23 => ((σ23 0 23) = 0 → K y24 σ23) ∧ (¬ (σ23 0 23) = 0 → CallI E shR d mX11_error [.ref 0, .int (-1000000006 : Int32)] σ23 (fun y26 σ25 => K y26 σ25))))) ∧ (y6 = 0 → CallI E shR d mX11_error [.ref 0, .int (-1000000001 : Int32)] σ5 (fun y28 σ27 => K y28 σ27)))))) : CallI E shR (d + 1) mX11_voice [.ref 0, .int x1, .int x2, .int x3] σ K := by
  refine wp_enter (Lo := [some (.ref 0), some (.int x1), some (.int x2), some (.int x3), none]) mp_X11_voice (Nat.le_of_ble_eq_true rfl) rfl ?_
  refine wp_aload_n (i := 0) dX11_voice_0 rfl rfl ?_
  refine wp_iload_n (i := 1) dX11_voice_1 rfl rfl ?_
  refine wp_callVI (vs := [.int x1]) (rest := []) dX11_voice_2 mV_X11_isPerson lm_X11_57 hR_0 rfl rfl rfl (Nat.le_of_ble_eq_true rfl) (CallI.mono h (fun y2 σ1 h => ?_))
  refine wp_ifeq (tgt := 17) dX11_voice_5 (by decide) ⟨fun q => ?_, fun q => ?_⟩
  · replace h := h.1 q
    refine wp_aload_n (i := 0) dX11_voice_17 rfl rfl ?_
    refine wp_ldc lc_X11_85 dX11_voice_18 ?_
    refine wp_callVI (vs := [.int (-1000000001 : Int32)]) (rest := []) dX11_voice_20 mV_X11_error lm_X11_86 hR_0 rfl rfl rfl (Nat.le_of_ble_eq_true rfl) (CallI.mono h (fun y4 σ3 h => ?_))
    exact wp_ireturn dX11_voice_23 rfl ⟨_, rfl, h⟩
  · replace h := h.2 q
    refine wp_iload_n (i := 2) dX11_voice_8 rfl rfl ?_
    refine wp_iconst (v := nI 0) dX11_voice_9 rfl ?_
    refine wp_iconst (v := nI 3) dX11_voice_10 rfl ?_
    refine wp_callSI (vs := [.int x2, .int (nI 0), .int (nI 3)]) (rest := []) dX11_voice_11 mS_X11_in lm_X11_53 rfl rfl (Nat.le_of_ble_eq_true rfl) (CallI.mono h (fun y6 σ5 h => ?_))
    refine wp_ifne (tgt := 24) dX11_voice_14 (by decide) ⟨fun q => ?_, fun q => ?_⟩
    · replace h := h.1 q
      refine wp_aload_n (i := 0) dX11_voice_24 rfl rfl ?_
      refine wp_iconst (v := nI 0) dX11_voice_25 rfl ?_
      refine wp_put dX11_voice_26 lp_X11_235 hR_0 rfl ⟨⟨rfl, rfl⟩, ?_⟩
      refine wp_nm (fun σ7 e8 => ?_)
      replace h := h σ7 e8
      refine wp_aload_n (i := 0) dX11_voice_29 rfl rfl ?_
      refine wp_iconst (v := nI 0) dX11_voice_30 rfl ?_
      refine wp_put dX11_voice_31 lp_X11_262 hR_0 rfl ⟨⟨rfl, rfl⟩, ?_⟩
      refine wp_nm (fun σ9 e10 => ?_)
      replace h := h σ9 e10
      refine wp_iload_n (i := 2) dX11_voice_34 rfl rfl ?_
      refine wp_ifne (tgt := 47) dX11_voice_35 (by decide) ⟨fun q => ?_, fun q => ?_⟩
      · replace h := h.1 q
        refine wp_iload_n (i := 2) dX11_voice_47 rfl rfl ?_
        refine wp_iconst (v := nI 1) dX11_voice_48 rfl ?_
        refine wp_icmpne (tgt := 61) dX11_voice_49 (by decide) ⟨fun q => ?_, fun q => ?_⟩
        · replace h := h.1 q
          refine wp_iload_n (i := 2) dX11_voice_61 rfl rfl ?_
          refine wp_iconst (v := nI 2) dX11_voice_62 rfl ?_
          refine wp_icmpne (tgt := 75) dX11_voice_63 (by decide) ⟨fun q => ?_, fun q => ?_⟩
          · replace h := h.1 q
            refine wp_aload_n (i := 0) dX11_voice_75 rfl rfl ?_
            refine wp_iload_n (i := 1) dX11_voice_76 rfl rfl ?_
            refine wp_iload_n (i := 3) dX11_voice_77 rfl rfl ?_
            refine wp_callVI (vs := [.int x1, .int x3]) (rest := []) dX11_voice_78 mV_X11_parts lm_X11_271 hR_0 rfl rfl rfl (Nat.le_of_ble_eq_true rfl) (CallI.mono h (fun y12 σ11 h => ?_))
            refine wp_istore (i := 4) (Lo' := [some (.ref 0), some (.int x1), some (.int x2), some (.int x3), some (.int y12)]) dX11_voice_81 (by decide) rfl rfl ?_
            refine wp_aload_n (i := 0) dX11_voice_83 rfl rfl ?_
            refine wp_getI dX11_voice_84 lf_X11_262 hR_0 rfl ?_
            refine wp_ifeq (tgt := 100) dX11_voice_87 (by decide) ⟨fun q => ?_, fun q => ?_⟩
            · replace h := h.1 q
              refine wp_iload (i := 4) dX11_voice_100 rfl ?_
              exact wp_ireturn dX11_voice_102 rfl ⟨_, rfl, h⟩
            · replace h := h.2 q
              refine wp_aload_n (i := 0) dX11_voice_90 rfl rfl ?_
              refine wp_ldcw lc_X11_274 dX11_voice_91 ?_
              refine wp_callVI (vs := [.int (-1000000006 : Int32)]) (rest := []) dX11_voice_94 mV_X11_error lm_X11_86 hR_0 rfl rfl rfl (Nat.le_of_ble_eq_true rfl) (CallI.mono h (fun y14 σ13 h => ?_))
              refine wp_goto (tgt := 102) dX11_voice_97 (by decide) ?_
              exact wp_ireturn dX11_voice_102 rfl ⟨_, rfl, h⟩
          · replace h := h.2 q
            refine wp_aload_n (i := 0) dX11_voice_66 rfl rfl ?_
            refine wp_iload_n (i := 1) dX11_voice_67 rfl rfl ?_
            refine wp_iload_n (i := 3) dX11_voice_68 rfl rfl ?_
            refine wp_callVI (vs := [.int x1, .int x3]) (rest := []) dX11_voice_69 mV_X11_ages lm_X11_268 hR_0 rfl rfl rfl (Nat.le_of_ble_eq_true rfl) (CallI.mono h (fun y16 σ15 h => ?_))
            refine wp_goto (tgt := 81) dX11_voice_72 (by decide) ?_
            refine wp_istore (i := 4) (Lo' := [some (.ref 0), some (.int x1), some (.int x2), some (.int x3), some (.int y16)]) dX11_voice_81 (by decide) rfl rfl ?_
            refine wp_aload_n (i := 0) dX11_voice_83 rfl rfl ?_
            refine wp_getI dX11_voice_84 lf_X11_262 hR_0 rfl ?_
            refine wp_ifeq (tgt := 100) dX11_voice_87 (by decide) ⟨fun q => ?_, fun q => ?_⟩
            · replace h := h.1 q
              refine wp_iload (i := 4) dX11_voice_100 rfl ?_
              exact wp_ireturn dX11_voice_102 rfl ⟨_, rfl, h⟩
            · replace h := h.2 q
              refine wp_aload_n (i := 0) dX11_voice_90 rfl rfl ?_
              refine wp_ldcw lc_X11_274 dX11_voice_91 ?_
              refine wp_callVI (vs := [.int (-1000000006 : Int32)]) (rest := []) dX11_voice_94 mV_X11_error lm_X11_86 hR_0 rfl rfl rfl (Nat.le_of_ble_eq_true rfl) (CallI.mono h (fun y18 σ17 h => ?_))
              refine wp_goto (tgt := 102) dX11_voice_97 (by decide) ?_
              exact wp_ireturn dX11_voice_102 rfl ⟨_, rfl, h⟩
        · replace h := h.2 q
          refine wp_aload_n (i := 0) dX11_voice_52 rfl rfl ?_
          refine wp_iload_n (i := 1) dX11_voice_53 rfl rfl ?_
          refine wp_iload_n (i := 3) dX11_voice_54 rfl rfl ?_
          refine wp_callVI (vs := [.int x1, .int x3]) (rest := []) dX11_voice_55 mV_X11_trades lm_X11_256 hR_0 rfl rfl rfl (Nat.le_of_ble_eq_true rfl) (CallI.mono h (fun y20 σ19 h => ?_))
          refine wp_goto (tgt := 81) dX11_voice_58 (by decide) ?_
          refine wp_istore (i := 4) (Lo' := [some (.ref 0), some (.int x1), some (.int x2), some (.int x3), some (.int y20)]) dX11_voice_81 (by decide) rfl rfl ?_
          refine wp_aload_n (i := 0) dX11_voice_83 rfl rfl ?_
          refine wp_getI dX11_voice_84 lf_X11_262 hR_0 rfl ?_
          refine wp_ifeq (tgt := 100) dX11_voice_87 (by decide) ⟨fun q => ?_, fun q => ?_⟩
          · replace h := h.1 q
            refine wp_iload (i := 4) dX11_voice_100 rfl ?_
            exact wp_ireturn dX11_voice_102 rfl ⟨_, rfl, h⟩
          · replace h := h.2 q
            refine wp_aload_n (i := 0) dX11_voice_90 rfl rfl ?_
            refine wp_ldcw lc_X11_274 dX11_voice_91 ?_
            refine wp_callVI (vs := [.int (-1000000006 : Int32)]) (rest := []) dX11_voice_94 mV_X11_error lm_X11_86 hR_0 rfl rfl rfl (Nat.le_of_ble_eq_true rfl) (CallI.mono h (fun y22 σ21 h => ?_))
            refine wp_goto (tgt := 102) dX11_voice_97 (by decide) ?_
            exact wp_ireturn dX11_voice_102 rfl ⟨_, rfl, h⟩
      · replace h := h.2 q
        refine wp_aload_n (i := 0) dX11_voice_38 rfl rfl ?_
        refine wp_iload_n (i := 1) dX11_voice_39 rfl rfl ?_
        refine wp_iload_n (i := 3) dX11_voice_40 rfl rfl ?_
        refine wp_callVI (vs := [.int x1, .int x3]) (rest := []) dX11_voice_41 mV_X11_yawns lm_X11_247 hR_0 rfl rfl rfl (Nat.le_of_ble_eq_true rfl) (CallI.mono h (fun y24 σ23 h => ?_))
        refine wp_goto (tgt := 81) dX11_voice_44 (by decide) ?_
        refine wp_istore (i := 4) (Lo' := [some (.ref 0), some (.int x1), some (.int x2), some (.int x3), some (.int y24)]) dX11_voice_81 (by decide) rfl rfl ?_
        refine wp_aload_n (i := 0) dX11_voice_83 rfl rfl ?_
        refine wp_getI dX11_voice_84 lf_X11_262 hR_0 rfl ?_
        refine wp_ifeq (tgt := 100) dX11_voice_87 (by decide) ⟨fun q => ?_, fun q => ?_⟩
        · replace h := h.1 q
          refine wp_iload (i := 4) dX11_voice_100 rfl ?_
          exact wp_ireturn dX11_voice_102 rfl ⟨_, rfl, h⟩
        · replace h := h.2 q
          refine wp_aload_n (i := 0) dX11_voice_90 rfl rfl ?_
          refine wp_ldcw lc_X11_274 dX11_voice_91 ?_
          refine wp_callVI (vs := [.int (-1000000006 : Int32)]) (rest := []) dX11_voice_94 mV_X11_error lm_X11_86 hR_0 rfl rfl rfl (Nat.le_of_ble_eq_true rfl) (CallI.mono h (fun y26 σ25 h => ?_))
          refine wp_goto (tgt := 102) dX11_voice_97 (by decide) ?_
          exact wp_ireturn dX11_voice_102 rfl ⟨_, rfl, h⟩
    · replace h := h.2 q
      refine wp_aload_n (i := 0) dX11_voice_17 rfl rfl ?_
      refine wp_ldc lc_X11_85 dX11_voice_18 ?_
      refine wp_callVI (vs := [.int (-1000000001 : Int32)]) (rest := []) dX11_voice_20 mV_X11_error lm_X11_86 hR_0 rfl rfl rfl (Nat.le_of_ble_eq_true rfl) (CallI.mono h (fun y28 σ27 h => ?_))
      exact wp_ireturn dX11_voice_23 rfl ⟨_, rfl, h⟩
set_option maxRecDepth 20000 in
set_option maxHeartbeats 2000000 in
theorem vc_Md_body {E : KE} {d : Nat} {x1 : Int32} {σ : Sg} {K : Int32 → Sg → Prop} (h : CallI E shR d mX11_in [.int x1, .int (nI 0), .int ((σ 0 22) - (nI 1))] σ (fun y2 σ1 => (y2 = 0 → CallI E shR d mX11_error [.ref 0, .int (-1000000002 : Int32)] σ1 (fun y4 σ3 => K y4 σ3)) ∧ (¬ y2 = 0 → vp_in x1 30 ∧ (K (σ1 14 x1.toNatClampNeg) σ1)))) : CallI E shR (d + 1) mX11_body [.ref 0, .int x1] σ K := by
  refine wp_enter (Lo := [some (.ref 0), some (.int x1)]) mp_X11_body (Nat.le_of_ble_eq_true rfl) rfl ?_
  refine wp_iload_n (i := 1) dX11_body_0 rfl rfl ?_
  refine wp_iconst (v := nI 0) dX11_body_1 rfl ?_
  refine wp_aload_n (i := 0) dX11_body_2 rfl rfl ?_
  refine wp_getI dX11_body_3 lf_X11_235 hR_0 rfl ?_
  refine wp_iconst (v := nI 1) dX11_body_6 rfl ?_
  refine wp_isub dX11_body_7 ?_
  refine wp_callSI (vs := [.int x1, .int (nI 0), .int ((σ 0 22) - (nI 1))]) (rest := []) dX11_body_8 mS_X11_in lm_X11_53 rfl rfl (Nat.le_of_ble_eq_true rfl) (CallI.mono h (fun y2 σ1 h => ?_))
  refine wp_ifeq (tgt := 23) dX11_body_11 (by decide) ⟨fun q => ?_, fun q => ?_⟩
  · replace h := h.1 q
    refine wp_aload_n (i := 0) dX11_body_23 rfl rfl ?_
    refine wp_ldc lc_X11_209 dX11_body_24 ?_
    refine wp_callVI (vs := [.int (-1000000002 : Int32)]) (rest := []) dX11_body_26 mV_X11_error lm_X11_86 hR_0 rfl rfl rfl (Nat.le_of_ble_eq_true rfl) (CallI.mono h (fun y4 σ3 h => ?_))
    exact wp_ireturn dX11_body_29 rfl ⟨_, rfl, h⟩
  · replace h := h.2 q
    refine wp_aload_n (i := 0) dX11_body_14 rfl rfl ?_
    refine wp_getR (t := 14) dX11_body_15 lf_X11_49 hR_0 rfl ?_
    refine wp_iload_n (i := 1) dX11_body_18 rfl rfl ?_
    refine wp_iald dX11_body_19 hR_14 ⟨h.1, ?_⟩
    replace h := h.2
    refine wp_goto (tgt := 29) dX11_body_20 (by decide) ?_
    exact wp_ireturn dX11_body_29 rfl ⟨_, rfl, h⟩
set_option maxRecDepth 20000 in
set_option maxHeartbeats 2000000 in
theorem vb_Md_sheet_93 {E : KE} {d : Nat} {x1 : Int32} {x4 : Int32} {σ : Sg} {K : Int32 → Sg → Prop} (h : ((nI 24) ≤ x4 → K (nI 1) σ) ∧ (¬ (nI 24) ≤ x4 → vp_in (((nI 24) * x1) + x4) 96 ∧ (∀ σ1, σ1 = k_put σ 7 (upd (σ 7) (((nI 24) * x1) + x4).toNatClampNeg (nI 0)) → WP E shR mX11_sheet (d + 1) 93 [some (.ref 0), some (.int x1), none, none, some (.int (x4 + nI 1))] [] σ1 (k_qi K)))) : WP E shR mX11_sheet (d + 1) 93 [some (.ref 0), some (.int x1), none, none, some (.int x4)] [] σ (k_qi K) := by
  refine wp_iload (i := 4) dX11_sheet_93 rfl ?_
  refine wp_bipush (v := nI 24) dX11_sheet_95 (by decide) ?_
  refine wp_icmpge (tgt := 119) dX11_sheet_97 (by decide) ⟨fun q => ?_, fun q => ?_⟩
  · replace h := h.1 q
    refine wp_iconst (v := nI 1) dX11_sheet_119 rfl ?_
    exact wp_ireturn dX11_sheet_120 rfl ⟨_, rfl, h⟩
  · replace h := h.2 q
    refine wp_aload_n (i := 0) dX11_sheet_100 rfl rfl ?_
    refine wp_getR (t := 7) dX11_sheet_101 lf_X11_28 hR_0 rfl ?_
    refine wp_bipush (v := nI 24) dX11_sheet_104 (by decide) ?_
    refine wp_iload_n (i := 1) dX11_sheet_106 rfl rfl ?_
    refine wp_imul dX11_sheet_107 ?_
    refine wp_iload (i := 4) dX11_sheet_108 rfl ?_
    refine wp_iadd dX11_sheet_110 ?_
    refine wp_iconst (v := nI 0) dX11_sheet_111 rfl ?_
    refine wp_iast dX11_sheet_112 hR_7 ⟨h.1, ?_⟩
    refine wp_nm (fun σ1 e2 => ?_)
    replace h := h.2 σ1 e2
    refine wp_iinc (i := 4) (v := x4 + nI 1) (Lo' := [some (.ref 0), some (.int x1), none, none, some (.int (x4 + nI 1))]) dX11_sheet_113 rfl (by rfl) (by decide) rfl rfl ?_
    refine wp_goto (tgt := 93) dX11_sheet_116 (by decide) ?_
    exact wp_mask [true, true, false, false, true] h
set_option maxRecDepth 20000 in
set_option maxHeartbeats 2000000 in
theorem vb_Md_sheet_36 {E : KE} {d : Nat} {x1 : Int32} {x2 : Int32} {x3 : Int32} {σ : Sg} {K : Int32 → Sg → Prop} (h : (x2 ≤ 0 → (x2 ≤ 0 → vp_in x1 4 ∧ (∀ σ1, σ1 = k_put σ 5 (upd (σ 5) x1.toNatClampNeg x2) → (¬ x2 = 0 → vp_in x1 4 ∧ (∀ σ3, σ3 = k_put σ1 6 (upd (σ1 6) x1.toNatClampNeg x3) → WP E shR mX11_sheet (d + 1) 93 [some (.ref 0), some (.int x1), none, none, some (.int (nI 0))] [] σ3 (k_qi K))) ∧ (x2 = 0 → vp_in x1 4 ∧ (∀ σ5, σ5 = k_put σ1 6 (upd (σ1 6) x1.toNatClampNeg (nI 0)) → WP E shR mX11_sheet (d + 1) 93 [some (.ref 0), some (.int x1), none, none, some (.int (nI 0))] [] σ5 (k_qi K))))) ∧ (¬ x2 ≤ 0 → (x3 ≤ (nI 24) → vp_in x1 4 ∧ (∀ σ7, σ7 = k_put σ 5 (upd (σ 5) x1.toNatClampNeg x2) → (¬ x2 = 0 → vp_in x1 4 ∧ (∀ σ9, σ9 = k_put σ7 6 (upd (σ7 6) x1.toNatClampNeg x3) → WP E shR mX11_sheet (d + 1) 93 [some (.ref 0), some (.int x1), none, none, some (.int (nI 0))] [] σ9 (k_qi K))) ∧ (x2 = 0 → vp_in x1 4 ∧ (∀ σ11, σ11 = k_put σ7 6 (upd (σ7 6) x1.toNatClampNeg (nI 0)) → WP E shR mX11_sheet (d + 1) 93 [some (.ref 0), some (.int x1), none, none, some (.int (nI 0))] [] σ11 (k_qi K))))) ∧ (¬ x3 ≤ (nI 24) → CallI E shR d mX11_error [.ref 0, .int (-1000000001 : Int32)] σ (fun y14 σ13 => K y14 σ13)))) ∧ (¬ x2 ≤ 0 → (0 ≤ x3 → (x2 ≤ 0 → vp_in x1 4 ∧ (∀ σ15, σ15 = k_put σ 5 (upd (σ 5) x1.toNatClampNeg x2) → (¬ x2 = 0 → vp_in x1 4 ∧ (∀ σ17, σ17 = k_put σ15 6 (upd (σ15 6) x1.toNatClampNeg x3) → WP E shR mX11_sheet (d + 1) 93 [some (.ref 0), some (.int x1), none, none, some (.int (nI 0))] [] σ17 (k_qi K))) ∧ (x2 = 0 → vp_in x1 4 ∧ (∀ σ19, σ19 = k_put σ15 6 (upd (σ15 6) x1.toNatClampNeg (nI 0)) → WP E shR mX11_sheet (d + 1) 93 [some (.ref 0), some (.int x1), none, none, some (.int (nI 0))] [] σ19 (k_qi K))))) ∧ (¬ x2 ≤ 0 → (x3 ≤ (nI 24) → vp_in x1 4 ∧ (∀ σ21, σ21 = k_put σ 5 (upd (σ 5) x1.toNatClampNeg x2) → (¬ x2 = 0 → vp_in x1 4 ∧ (∀ σ23, σ23 = k_put σ21 6 (upd (σ21 6) x1.toNatClampNeg x3) → WP E shR mX11_sheet (d + 1) 93 [some (.ref 0), some (.int x1), none, none, some (.int (nI 0))] [] σ23 (k_qi K))) ∧ (x2 = 0 → vp_in x1 4 ∧ (∀ σ25, σ25 = k_put σ21 6 (upd (σ21 6) x1.toNatClampNeg (nI 0)) → WP E shR mX11_sheet (d + 1) 93 [some (.ref 0), some (.int x1), none, none, some (.int (nI 0))] [] σ25 (k_qi K))))) ∧ (¬ x3 ≤ (nI 24) → CallI E shR d mX11_error [.ref 0, .int (-1000000001 : Int32)] σ (fun y28 σ27 => K y28 σ27)))) ∧ (¬ 0 ≤ x3 → CallI E shR d mX11_error [.ref 0, .int (-1000000003 : Int32)] σ (fun y30 σ29 => K y30 σ29)))) : WP E shR mX11_sheet (d + 1) 36 [some (.ref 0), some (.int x1), some (.int x2), some (.int x3), none] [] σ (k_qi K) := by
  refine wp_iload_n (i := 2) dX11_sheet_36 rfl rfl ?_
  refine wp_ifle (tgt := 51) dX11_sheet_37 (by decide) ⟨fun q => ?_, fun q => ?_⟩
  · replace h := h.1 q
    refine wp_iload_n (i := 2) dX11_sheet_51 rfl rfl ?_
    refine wp_ifle (tgt := 68) dX11_sheet_52 (by decide) ⟨fun q => ?_, fun q => ?_⟩
    · replace h := h.1 q
      refine wp_aload_n (i := 0) dX11_sheet_68 rfl rfl ?_
      refine wp_getR (t := 5) dX11_sheet_69 lf_X11_22 hR_0 rfl ?_
      refine wp_iload_n (i := 1) dX11_sheet_72 rfl rfl ?_
      refine wp_iload_n (i := 2) dX11_sheet_73 rfl rfl ?_
      refine wp_iast dX11_sheet_74 hR_5 ⟨h.1, ?_⟩
      refine wp_nm (fun σ1 e2 => ?_)
      replace h := h.2 σ1 e2
      refine wp_aload_n (i := 0) dX11_sheet_75 rfl rfl ?_
      refine wp_getR (t := 6) dX11_sheet_76 lf_X11_25 hR_0 rfl ?_
      refine wp_iload_n (i := 1) dX11_sheet_79 rfl rfl ?_
      refine wp_iload_n (i := 2) dX11_sheet_80 rfl rfl ?_
      refine wp_ifne (tgt := 88) dX11_sheet_81 (by decide) ⟨fun q => ?_, fun q => ?_⟩
      · replace h := h.1 q
        refine wp_iload_n (i := 3) dX11_sheet_88 rfl rfl ?_
        refine wp_iast dX11_sheet_89 hR_6 ⟨h.1, ?_⟩
        refine wp_nm (fun σ3 e4 => ?_)
        replace h := h.2 σ3 e4
        refine wp_iconst (v := nI 0) dX11_sheet_90 rfl ?_
        refine wp_istore (i := 4) (Lo' := [some (.ref 0), some (.int x1), some (.int x2), some (.int x3), some (.int (nI 0))]) dX11_sheet_91 (by decide) rfl rfl ?_
        exact wp_mask [true, true, false, false, true] h
      · replace h := h.2 q
        refine wp_iconst (v := nI 0) dX11_sheet_84 rfl ?_
        refine wp_goto (tgt := 89) dX11_sheet_85 (by decide) ?_
        refine wp_iast dX11_sheet_89 hR_6 ⟨h.1, ?_⟩
        refine wp_nm (fun σ5 e6 => ?_)
        replace h := h.2 σ5 e6
        refine wp_iconst (v := nI 0) dX11_sheet_90 rfl ?_
        refine wp_istore (i := 4) (Lo' := [some (.ref 0), some (.int x1), some (.int x2), some (.int x3), some (.int (nI 0))]) dX11_sheet_91 (by decide) rfl rfl ?_
        exact wp_mask [true, true, false, false, true] h
    · replace h := h.2 q
      refine wp_iload_n (i := 3) dX11_sheet_55 rfl rfl ?_
      refine wp_bipush (v := nI 24) dX11_sheet_56 (by decide) ?_
      refine wp_icmple (tgt := 68) dX11_sheet_58 (by decide) ⟨fun q => ?_, fun q => ?_⟩
      · replace h := h.1 q
        refine wp_aload_n (i := 0) dX11_sheet_68 rfl rfl ?_
        refine wp_getR (t := 5) dX11_sheet_69 lf_X11_22 hR_0 rfl ?_
        refine wp_iload_n (i := 1) dX11_sheet_72 rfl rfl ?_
        refine wp_iload_n (i := 2) dX11_sheet_73 rfl rfl ?_
        refine wp_iast dX11_sheet_74 hR_5 ⟨h.1, ?_⟩
        refine wp_nm (fun σ7 e8 => ?_)
        replace h := h.2 σ7 e8
        refine wp_aload_n (i := 0) dX11_sheet_75 rfl rfl ?_
        refine wp_getR (t := 6) dX11_sheet_76 lf_X11_25 hR_0 rfl ?_
        refine wp_iload_n (i := 1) dX11_sheet_79 rfl rfl ?_
        refine wp_iload_n (i := 2) dX11_sheet_80 rfl rfl ?_
        refine wp_ifne (tgt := 88) dX11_sheet_81 (by decide) ⟨fun q => ?_, fun q => ?_⟩
        · replace h := h.1 q
          refine wp_iload_n (i := 3) dX11_sheet_88 rfl rfl ?_
          refine wp_iast dX11_sheet_89 hR_6 ⟨h.1, ?_⟩
          refine wp_nm (fun σ9 e10 => ?_)
          replace h := h.2 σ9 e10
          refine wp_iconst (v := nI 0) dX11_sheet_90 rfl ?_
          refine wp_istore (i := 4) (Lo' := [some (.ref 0), some (.int x1), some (.int x2), some (.int x3), some (.int (nI 0))]) dX11_sheet_91 (by decide) rfl rfl ?_
          exact wp_mask [true, true, false, false, true] h
        · replace h := h.2 q
          refine wp_iconst (v := nI 0) dX11_sheet_84 rfl ?_
          refine wp_goto (tgt := 89) dX11_sheet_85 (by decide) ?_
          refine wp_iast dX11_sheet_89 hR_6 ⟨h.1, ?_⟩
          refine wp_nm (fun σ11 e12 => ?_)
          replace h := h.2 σ11 e12
          refine wp_iconst (v := nI 0) dX11_sheet_90 rfl ?_
          refine wp_istore (i := 4) (Lo' := [some (.ref 0), some (.int x1), some (.int x2), some (.int x3), some (.int (nI 0))]) dX11_sheet_91 (by decide) rfl rfl ?_
          exact wp_mask [true, true, false, false, true] h
      · replace h := h.2 q
        refine wp_aload_n (i := 0) dX11_sheet_61 rfl rfl ?_
        refine wp_ldc lc_X11_85 dX11_sheet_62 ?_
        refine wp_callVI (vs := [.int (-1000000001 : Int32)]) (rest := []) dX11_sheet_64 mV_X11_error lm_X11_86 hR_0 rfl rfl rfl (Nat.le_of_ble_eq_true rfl) (CallI.mono h (fun y14 σ13 h => ?_))
        exact wp_ireturn dX11_sheet_67 rfl ⟨_, rfl, h⟩
  · replace h := h.2 q
    refine wp_iload_n (i := 3) dX11_sheet_40 rfl rfl ?_
    refine wp_ifge (tgt := 51) dX11_sheet_41 (by decide) ⟨fun q => ?_, fun q => ?_⟩
    · replace h := h.1 q
      refine wp_iload_n (i := 2) dX11_sheet_51 rfl rfl ?_
      refine wp_ifle (tgt := 68) dX11_sheet_52 (by decide) ⟨fun q => ?_, fun q => ?_⟩
      · replace h := h.1 q
        refine wp_aload_n (i := 0) dX11_sheet_68 rfl rfl ?_
        refine wp_getR (t := 5) dX11_sheet_69 lf_X11_22 hR_0 rfl ?_
        refine wp_iload_n (i := 1) dX11_sheet_72 rfl rfl ?_
        refine wp_iload_n (i := 2) dX11_sheet_73 rfl rfl ?_
        refine wp_iast dX11_sheet_74 hR_5 ⟨h.1, ?_⟩
        refine wp_nm (fun σ15 e16 => ?_)
        replace h := h.2 σ15 e16
        refine wp_aload_n (i := 0) dX11_sheet_75 rfl rfl ?_
        refine wp_getR (t := 6) dX11_sheet_76 lf_X11_25 hR_0 rfl ?_
        refine wp_iload_n (i := 1) dX11_sheet_79 rfl rfl ?_
        refine wp_iload_n (i := 2) dX11_sheet_80 rfl rfl ?_
        refine wp_ifne (tgt := 88) dX11_sheet_81 (by decide) ⟨fun q => ?_, fun q => ?_⟩
        · replace h := h.1 q
          refine wp_iload_n (i := 3) dX11_sheet_88 rfl rfl ?_
          refine wp_iast dX11_sheet_89 hR_6 ⟨h.1, ?_⟩
          refine wp_nm (fun σ17 e18 => ?_)
          replace h := h.2 σ17 e18
          refine wp_iconst (v := nI 0) dX11_sheet_90 rfl ?_
          refine wp_istore (i := 4) (Lo' := [some (.ref 0), some (.int x1), some (.int x2), some (.int x3), some (.int (nI 0))]) dX11_sheet_91 (by decide) rfl rfl ?_
          exact wp_mask [true, true, false, false, true] h
        · replace h := h.2 q
          refine wp_iconst (v := nI 0) dX11_sheet_84 rfl ?_
          refine wp_goto (tgt := 89) dX11_sheet_85 (by decide) ?_
          refine wp_iast dX11_sheet_89 hR_6 ⟨h.1, ?_⟩
          refine wp_nm (fun σ19 e20 => ?_)
          replace h := h.2 σ19 e20
          refine wp_iconst (v := nI 0) dX11_sheet_90 rfl ?_
          refine wp_istore (i := 4) (Lo' := [some (.ref 0), some (.int x1), some (.int x2), some (.int x3), some (.int (nI 0))]) dX11_sheet_91 (by decide) rfl rfl ?_
          exact wp_mask [true, true, false, false, true] h
      · replace h := h.2 q
        refine wp_iload_n (i := 3) dX11_sheet_55 rfl rfl ?_
        refine wp_bipush (v := nI 24) dX11_sheet_56 (by decide) ?_
        refine wp_icmple (tgt := 68) dX11_sheet_58 (by decide) ⟨fun q => ?_, fun q => ?_⟩
        · replace h := h.1 q
          refine wp_aload_n (i := 0) dX11_sheet_68 rfl rfl ?_
          refine wp_getR (t := 5) dX11_sheet_69 lf_X11_22 hR_0 rfl ?_
          refine wp_iload_n (i := 1) dX11_sheet_72 rfl rfl ?_
          refine wp_iload_n (i := 2) dX11_sheet_73 rfl rfl ?_
          refine wp_iast dX11_sheet_74 hR_5 ⟨h.1, ?_⟩
          refine wp_nm (fun σ21 e22 => ?_)
          replace h := h.2 σ21 e22
          refine wp_aload_n (i := 0) dX11_sheet_75 rfl rfl ?_
          refine wp_getR (t := 6) dX11_sheet_76 lf_X11_25 hR_0 rfl ?_
          refine wp_iload_n (i := 1) dX11_sheet_79 rfl rfl ?_
          refine wp_iload_n (i := 2) dX11_sheet_80 rfl rfl ?_
          refine wp_ifne (tgt := 88) dX11_sheet_81 (by decide) ⟨fun q => ?_, fun q => ?_⟩
          · replace h := h.1 q
            refine wp_iload_n (i := 3) dX11_sheet_88 rfl rfl ?_
            refine wp_iast dX11_sheet_89 hR_6 ⟨h.1, ?_⟩
            refine wp_nm (fun σ23 e24 => ?_)
            replace h := h.2 σ23 e24
            refine wp_iconst (v := nI 0) dX11_sheet_90 rfl ?_
            refine wp_istore (i := 4) (Lo' := [some (.ref 0), some (.int x1), some (.int x2), some (.int x3), some (.int (nI 0))]) dX11_sheet_91 (by decide) rfl rfl ?_
            exact wp_mask [true, true, false, false, true] h
          · replace h := h.2 q
            refine wp_iconst (v := nI 0) dX11_sheet_84 rfl ?_
            refine wp_goto (tgt := 89) dX11_sheet_85 (by decide) ?_
            refine wp_iast dX11_sheet_89 hR_6 ⟨h.1, ?_⟩
            refine wp_nm (fun σ25 e26 => ?_)
            replace h := h.2 σ25 e26
            refine wp_iconst (v := nI 0) dX11_sheet_90 rfl ?_
            refine wp_istore (i := 4) (Lo' := [some (.ref 0), some (.int x1), some (.int x2), some (.int x3), some (.int (nI 0))]) dX11_sheet_91 (by decide) rfl rfl ?_
            exact wp_mask [true, true, false, false, true] h
        · replace h := h.2 q
          refine wp_aload_n (i := 0) dX11_sheet_61 rfl rfl ?_
          refine wp_ldc lc_X11_85 dX11_sheet_62 ?_
          refine wp_callVI (vs := [.int (-1000000001 : Int32)]) (rest := []) dX11_sheet_64 mV_X11_error lm_X11_86 hR_0 rfl rfl rfl (Nat.le_of_ble_eq_true rfl) (CallI.mono h (fun y28 σ27 h => ?_))
          exact wp_ireturn dX11_sheet_67 rfl ⟨_, rfl, h⟩
    · replace h := h.2 q
      refine wp_aload_n (i := 0) dX11_sheet_44 rfl rfl ?_
      refine wp_ldc lc_X11_118 dX11_sheet_45 ?_
      refine wp_callVI (vs := [.int (-1000000003 : Int32)]) (rest := []) dX11_sheet_47 mV_X11_error lm_X11_86 hR_0 rfl rfl rfl (Nat.le_of_ble_eq_true rfl) (CallI.mono h (fun y30 σ29 h => ?_))
      exact wp_ireturn dX11_sheet_50 rfl ⟨_, rfl, h⟩
set_option maxRecDepth 20000 in
set_option maxHeartbeats 2000000 in
theorem vc_Md_sheet {E : KE} {d : Nat} {x1 : Int32} {x2 : Int32} {x3 : Int32} {σ : Sg} {K : Int32 → Sg → Prop} (h : CallI E shR d mX11_isSheet [.int x1] σ (fun y2 σ1 => (y2 = 0 → CallI E shR d mX11_error [.ref 0, .int (-1000000001 : Int32)] σ1 (fun y4 σ3 => K y4 σ3)) ∧ (¬ y2 = 0 → (x2 = 0 → WP E shR mX11_sheet (d + 1) 36 [some (.ref 0), some (.int x1), some (.int x2), some (.int x3), none] [] σ1 (k_qi K)) ∧ (¬ x2 = 0 → (x2 = (nI 8) → WP E shR mX11_sheet (d + 1) 36 [some (.ref 0), some (.int x1), some (.int x2), some (.int x3), none] [] σ1 (k_qi K)) ∧ (¬ x2 = (nI 8) → (x2 = (nI 16) → WP E shR mX11_sheet (d + 1) 36 [some (.ref 0), some (.int x1), some (.int x2), some (.int x3), none] [] σ1 (k_qi K)) ∧ (¬ x2 = (nI 16) → (x2 = (nI 32) → WP E shR mX11_sheet (d + 1) 36 [some (.ref 0), some (.int x1), some (.int x2), some (.int x3), none] [] σ1 (k_qi K)) ∧ (¬ x2 = (nI 32) → CallI E shR d mX11_error [.ref 0, .int (-1000000001 : Int32)] σ1 (fun y6 σ5 => K y6 σ5)))))))) : CallI E shR (d + 1) mX11_sheet [.ref 0, .int x1, .int x2, .int x3] σ K := by
  refine wp_enter (Lo := [some (.ref 0), some (.int x1), some (.int x2), some (.int x3), none]) mp_X11_sheet (Nat.le_of_ble_eq_true rfl) rfl ?_
  refine wp_iload_n (i := 1) dX11_sheet_0 rfl rfl ?_
  refine wp_callSI (vs := [.int x1]) (rest := []) dX11_sheet_1 mS_X11_isSheet lm_X11_275 rfl rfl (Nat.le_of_ble_eq_true rfl) (CallI.mono h (fun y2 σ1 h => ?_))
  refine wp_ifeq (tgt := 29) dX11_sheet_4 (by decide) ⟨fun q => ?_, fun q => ?_⟩
  · replace h := h.1 q
    refine wp_aload_n (i := 0) dX11_sheet_29 rfl rfl ?_
    refine wp_ldc lc_X11_85 dX11_sheet_30 ?_
    refine wp_callVI (vs := [.int (-1000000001 : Int32)]) (rest := []) dX11_sheet_32 mV_X11_error lm_X11_86 hR_0 rfl rfl rfl (Nat.le_of_ble_eq_true rfl) (CallI.mono h (fun y4 σ3 h => ?_))
    exact wp_ireturn dX11_sheet_35 rfl ⟨_, rfl, h⟩
  · replace h := h.2 q
    refine wp_iload_n (i := 2) dX11_sheet_7 rfl rfl ?_
    refine wp_ifeq (tgt := 36) dX11_sheet_8 (by decide) ⟨fun q => ?_, fun q => ?_⟩
    · replace h := h.1 q
      exact wp_mask [true, true, true, true, false] h
    · replace h := h.2 q
      refine wp_iload_n (i := 2) dX11_sheet_11 rfl rfl ?_
      refine wp_bipush (v := nI 8) dX11_sheet_12 (by decide) ?_
      refine wp_icmpeq (tgt := 36) dX11_sheet_14 (by decide) ⟨fun q => ?_, fun q => ?_⟩
      · replace h := h.1 q
        exact wp_mask [true, true, true, true, false] h
      · replace h := h.2 q
        refine wp_iload_n (i := 2) dX11_sheet_17 rfl rfl ?_
        refine wp_bipush (v := nI 16) dX11_sheet_18 (by decide) ?_
        refine wp_icmpeq (tgt := 36) dX11_sheet_20 (by decide) ⟨fun q => ?_, fun q => ?_⟩
        · replace h := h.1 q
          exact wp_mask [true, true, true, true, false] h
        · replace h := h.2 q
          refine wp_iload_n (i := 2) dX11_sheet_23 rfl rfl ?_
          refine wp_bipush (v := nI 32) dX11_sheet_24 (by decide) ?_
          refine wp_icmpeq (tgt := 36) dX11_sheet_26 (by decide) ⟨fun q => ?_, fun q => ?_⟩
          · replace h := h.1 q
            exact wp_mask [true, true, true, true, false] h
          · replace h := h.2 q
            refine wp_aload_n (i := 0) dX11_sheet_29 rfl rfl ?_
            refine wp_ldc lc_X11_85 dX11_sheet_30 ?_
            refine wp_callVI (vs := [.int (-1000000001 : Int32)]) (rest := []) dX11_sheet_32 mV_X11_error lm_X11_86 hR_0 rfl rfl rfl (Nat.le_of_ble_eq_true rfl) (CallI.mono h (fun y6 σ5 h => ?_))
            exact wp_ireturn dX11_sheet_35 rfl ⟨_, rfl, h⟩
set_option maxRecDepth 20000 in
set_option maxHeartbeats 2000000 in
theorem vc_Md_put {E : KE} {d : Nat} {x1 : Int32} {x2 : Int32} {x3 : Int32} {σ : Sg} {K : Int32 → Sg → Prop} (h : CallI E shR d mX11_notThere [.ref 0, .int x1] σ (fun y2 σ1 => (¬ y2 = 0 → (y2 = 0 → vp_in x1 4 ∧ ((¬ (σ1 5 x1.toNatClampNeg) = (nI 8) → vp_in x1 4 ∧ ((¬ (σ1 5 x1.toNatClampNeg) = (nI 16) → vp_in (((nI 24) * x1) + x2) 96 ∧ (∀ σ3, σ3 = k_put σ1 7 (upd (σ1 7) (((nI 24) * x1) + x2).toNatClampNeg x3) → K (nI 1) σ3)) ∧ ((σ1 5 x1.toNatClampNeg) = (nI 16) → vp_in (((nI 24) * x1) + x2) 96 ∧ (∀ σ5, σ5 = k_put σ1 7 (upd (σ1 7) (((nI 24) * x1) + x2).toNatClampNeg x3.toInt16.toInt32) → K (nI 1) σ5)))) ∧ ((σ1 5 x1.toNatClampNeg) = (nI 8) → vp_in (((nI 24) * x1) + x2) 96 ∧ (∀ σ7, σ7 = k_put σ1 7 (upd (σ1 7) (((nI 24) * x1) + x2).toNatClampNeg x3.toInt8.toInt32) → K (nI 1) σ7)))) ∧ (¬ y2 = 0 → CallI E shR d mX11_error [.ref 0, .int y2] σ1 (fun y10 σ9 => K y10 σ9))) ∧ (y2 = 0 → vp_in x1 4 ∧ (CallI E shR d mX11_in [.int x2, .int (nI 0), .int ((σ1 6 x1.toNatClampNeg) - (nI 1))] σ1 (fun y12 σ11 => (¬ y12 = 0 → (y2 = 0 → vp_in x1 4 ∧ ((¬ (σ11 5 x1.toNatClampNeg) = (nI 8) → vp_in x1 4 ∧ ((¬ (σ11 5 x1.toNatClampNeg) = (nI 16) → vp_in (((nI 24) * x1) + x2) 96 ∧ (∀ σ13, σ13 = k_put σ11 7 (upd (σ11 7) (((nI 24) * x1) + x2).toNatClampNeg x3) → K (nI 1) σ13)) ∧ ((σ11 5 x1.toNatClampNeg) = (nI 16) → vp_in (((nI 24) * x1) + x2) 96 ∧ (∀ σ15, σ15 = k_put σ11 7 (upd (σ11 7) (((nI 24) * x1) + x2).toNatClampNeg x3.toInt16.toInt32) → K (nI 1) σ15)))) ∧ ((σ11 5 x1.toNatClampNeg) = (nI 8) → vp_in (((nI 24) * x1) + x2) 96 ∧ (∀ σ17, σ17 = k_put σ11 7 (upd (σ11 7) (((nI 24) * x1) + x2).toNatClampNeg x3.toInt8.toInt32) → K (nI 1) σ17)))) ∧ (¬ y2 = 0 → CallI E shR d mX11_error [.ref 0, .int y2] σ11 (fun y20 σ19 => K y20 σ19))) ∧ (y12 = 0 → ((-1000000001 : Int32) = 0 → vp_in x1 4 ∧ ((¬ (σ11 5 x1.toNatClampNeg) = (nI 8) → vp_in x1 4 ∧ ((¬ (σ11 5 x1.toNatClampNeg) = (nI 16) → vp_in (((nI 24) * x1) + x2) 96 ∧ (∀ σ21, σ21 = k_put σ11 7 (upd (σ11 7) (((nI 24) * x1) + x2).toNatClampNeg x3) → K (nI 1) σ21)) ∧ ((σ11 5 x1.toNatClampNeg) = (nI 16) → vp_in (((nI 24) * x1) + x2) 96 ∧ (∀ σ23, σ23 = k_put σ11 7 (upd (σ11 7) (((nI 24) * x1) + x2).toNatClampNeg x3.toInt16.toInt32) → K (nI 1) σ23)))) ∧ ((σ11 5 x1.toNatClampNeg) = (nI 8) → vp_in (((nI 24) * x1) + x2) 96 ∧ (∀ σ25, σ25 = k_put σ11 7 (upd (σ11 7) (((nI 24) * x1) + x2).toNatClampNeg x3.toInt8.toInt32) → K (nI 1) σ25)))) ∧ (¬ (-1000000001 : Int32) = 0 → CallI E shR d mX11_error [.ref 0, .int (-1000000001 : Int32)] σ11 (fun y28 σ27 => K y28 σ27)))))))) : CallI E shR (d + 1) mX11_put [.ref 0, .int x1, .int x2, .int x3] σ K := by
  refine wp_enter (Lo := [some (.ref 0), some (.int x1), some (.int x2), some (.int x3), none]) mp_X11_put (Nat.le_of_ble_eq_true rfl) rfl ?_
  refine wp_aload_n (i := 0) dX11_put_0 rfl rfl ?_
  refine wp_iload_n (i := 1) dX11_put_1 rfl rfl ?_
  refine wp_callVI (vs := [.int x1]) (rest := []) dX11_put_2 mV_X11_notThere lm_X11_232 hR_0 rfl rfl rfl (Nat.le_of_ble_eq_true rfl) (CallI.mono h (fun y2 σ1 h => ?_))
  refine wp_istore (i := 4) (Lo' := [some (.ref 0), some (.int x1), some (.int x2), some (.int x3), some (.int y2)]) dX11_put_5 (by decide) rfl rfl ?_
  refine wp_iload (i := 4) dX11_put_7 rfl ?_
  refine wp_ifne (tgt := 33) dX11_put_9 (by decide) ⟨fun q => ?_, fun q => ?_⟩
  · replace h := h.1 q
    refine wp_iload (i := 4) dX11_put_33 rfl ?_
    refine wp_istore (i := 4) (Lo' := [some (.ref 0), some (.int x1), some (.int x2), some (.int x3), some (.int y2)]) dX11_put_35 (by decide) rfl rfl ?_
    refine wp_iload (i := 4) dX11_put_37 rfl ?_
    refine wp_ifeq (tgt := 49) dX11_put_39 (by decide) ⟨fun q => ?_, fun q => ?_⟩
    · replace h := h.1 q
      refine wp_aload_n (i := 0) dX11_put_49 rfl rfl ?_
      refine wp_getR (t := 7) dX11_put_50 lf_X11_28 hR_0 rfl ?_
      refine wp_bipush (v := nI 24) dX11_put_53 (by decide) ?_
      refine wp_iload_n (i := 1) dX11_put_55 rfl rfl ?_
      refine wp_imul dX11_put_56 ?_
      refine wp_iload_n (i := 2) dX11_put_57 rfl rfl ?_
      refine wp_iadd dX11_put_58 ?_
      refine wp_aload_n (i := 0) dX11_put_59 rfl rfl ?_
      refine wp_getR (t := 5) dX11_put_60 lf_X11_22 hR_0 rfl ?_
      refine wp_iload_n (i := 1) dX11_put_63 rfl rfl ?_
      refine wp_iald dX11_put_64 hR_5 ⟨h.1, ?_⟩
      replace h := h.2
      refine wp_bipush (v := nI 8) dX11_put_65 (by decide) ?_
      refine wp_icmpne (tgt := 75) dX11_put_67 (by decide) ⟨fun q => ?_, fun q => ?_⟩
      · replace h := h.1 q
        refine wp_aload_n (i := 0) dX11_put_75 rfl rfl ?_
        refine wp_getR (t := 5) dX11_put_76 lf_X11_22 hR_0 rfl ?_
        refine wp_iload_n (i := 1) dX11_put_79 rfl rfl ?_
        refine wp_iald dX11_put_80 hR_5 ⟨h.1, ?_⟩
        replace h := h.2
        refine wp_bipush (v := nI 16) dX11_put_81 (by decide) ?_
        refine wp_icmpne (tgt := 91) dX11_put_83 (by decide) ⟨fun q => ?_, fun q => ?_⟩
        · replace h := h.1 q
          refine wp_iload_n (i := 3) dX11_put_91 rfl rfl ?_
          refine wp_iast dX11_put_92 hR_7 ⟨h.1, ?_⟩
          refine wp_nm (fun σ3 e4 => ?_)
          replace h := h.2 σ3 e4
          refine wp_iconst (v := nI 1) dX11_put_93 rfl ?_
          exact wp_ireturn dX11_put_94 rfl ⟨_, rfl, h⟩
        · replace h := h.2 q
          refine wp_iload_n (i := 3) dX11_put_86 rfl rfl ?_
          refine wp_i2s dX11_put_87 ?_
          refine wp_goto (tgt := 92) dX11_put_88 (by decide) ?_
          refine wp_iast dX11_put_92 hR_7 ⟨h.1, ?_⟩
          refine wp_nm (fun σ5 e6 => ?_)
          replace h := h.2 σ5 e6
          refine wp_iconst (v := nI 1) dX11_put_93 rfl ?_
          exact wp_ireturn dX11_put_94 rfl ⟨_, rfl, h⟩
      · replace h := h.2 q
        refine wp_iload_n (i := 3) dX11_put_70 rfl rfl ?_
        refine wp_i2b dX11_put_71 ?_
        refine wp_goto (tgt := 92) dX11_put_72 (by decide) ?_
        refine wp_iast dX11_put_92 hR_7 ⟨h.1, ?_⟩
        refine wp_nm (fun σ7 e8 => ?_)
        replace h := h.2 σ7 e8
        refine wp_iconst (v := nI 1) dX11_put_93 rfl ?_
        exact wp_ireturn dX11_put_94 rfl ⟨_, rfl, h⟩
    · replace h := h.2 q
      refine wp_aload_n (i := 0) dX11_put_42 rfl rfl ?_
      refine wp_iload (i := 4) dX11_put_43 rfl ?_
      refine wp_callVI (vs := [.int y2]) (rest := []) dX11_put_45 mV_X11_error lm_X11_86 hR_0 rfl rfl rfl (Nat.le_of_ble_eq_true rfl) (CallI.mono h (fun y10 σ9 h => ?_))
      exact wp_ireturn dX11_put_48 rfl ⟨_, rfl, h⟩
  · replace h := h.2 q
    refine wp_iload_n (i := 2) dX11_put_12 rfl rfl ?_
    refine wp_iconst (v := nI 0) dX11_put_13 rfl ?_
    refine wp_aload_n (i := 0) dX11_put_14 rfl rfl ?_
    refine wp_getR (t := 6) dX11_put_15 lf_X11_25 hR_0 rfl ?_
    refine wp_iload_n (i := 1) dX11_put_18 rfl rfl ?_
    refine wp_iald dX11_put_19 hR_6 ⟨h.1, ?_⟩
    replace h := h.2
    refine wp_iconst (v := nI 1) dX11_put_20 rfl ?_
    refine wp_isub dX11_put_21 ?_
    refine wp_callSI (vs := [.int x2, .int (nI 0), .int ((σ1 6 x1.toNatClampNeg) - (nI 1))]) (rest := []) dX11_put_22 mS_X11_in lm_X11_53 rfl rfl (Nat.le_of_ble_eq_true rfl) (CallI.mono h (fun y12 σ11 h => ?_))
    refine wp_ifne (tgt := 33) dX11_put_25 (by decide) ⟨fun q => ?_, fun q => ?_⟩
    · replace h := h.1 q
      refine wp_iload (i := 4) dX11_put_33 rfl ?_
      refine wp_istore (i := 4) (Lo' := [some (.ref 0), some (.int x1), some (.int x2), some (.int x3), some (.int y2)]) dX11_put_35 (by decide) rfl rfl ?_
      refine wp_iload (i := 4) dX11_put_37 rfl ?_
      refine wp_ifeq (tgt := 49) dX11_put_39 (by decide) ⟨fun q => ?_, fun q => ?_⟩
      · replace h := h.1 q
        refine wp_aload_n (i := 0) dX11_put_49 rfl rfl ?_
        refine wp_getR (t := 7) dX11_put_50 lf_X11_28 hR_0 rfl ?_
        refine wp_bipush (v := nI 24) dX11_put_53 (by decide) ?_
        refine wp_iload_n (i := 1) dX11_put_55 rfl rfl ?_
        refine wp_imul dX11_put_56 ?_
        refine wp_iload_n (i := 2) dX11_put_57 rfl rfl ?_
        refine wp_iadd dX11_put_58 ?_
        refine wp_aload_n (i := 0) dX11_put_59 rfl rfl ?_
        refine wp_getR (t := 5) dX11_put_60 lf_X11_22 hR_0 rfl ?_
        refine wp_iload_n (i := 1) dX11_put_63 rfl rfl ?_
        refine wp_iald dX11_put_64 hR_5 ⟨h.1, ?_⟩
        replace h := h.2
        refine wp_bipush (v := nI 8) dX11_put_65 (by decide) ?_
        refine wp_icmpne (tgt := 75) dX11_put_67 (by decide) ⟨fun q => ?_, fun q => ?_⟩
        · replace h := h.1 q
          refine wp_aload_n (i := 0) dX11_put_75 rfl rfl ?_
          refine wp_getR (t := 5) dX11_put_76 lf_X11_22 hR_0 rfl ?_
          refine wp_iload_n (i := 1) dX11_put_79 rfl rfl ?_
          refine wp_iald dX11_put_80 hR_5 ⟨h.1, ?_⟩
          replace h := h.2
          refine wp_bipush (v := nI 16) dX11_put_81 (by decide) ?_
          refine wp_icmpne (tgt := 91) dX11_put_83 (by decide) ⟨fun q => ?_, fun q => ?_⟩
          · replace h := h.1 q
            refine wp_iload_n (i := 3) dX11_put_91 rfl rfl ?_
            refine wp_iast dX11_put_92 hR_7 ⟨h.1, ?_⟩
            refine wp_nm (fun σ13 e14 => ?_)
            replace h := h.2 σ13 e14
            refine wp_iconst (v := nI 1) dX11_put_93 rfl ?_
            exact wp_ireturn dX11_put_94 rfl ⟨_, rfl, h⟩
          · replace h := h.2 q
            refine wp_iload_n (i := 3) dX11_put_86 rfl rfl ?_
            refine wp_i2s dX11_put_87 ?_
            refine wp_goto (tgt := 92) dX11_put_88 (by decide) ?_
            refine wp_iast dX11_put_92 hR_7 ⟨h.1, ?_⟩
            refine wp_nm (fun σ15 e16 => ?_)
            replace h := h.2 σ15 e16
            refine wp_iconst (v := nI 1) dX11_put_93 rfl ?_
            exact wp_ireturn dX11_put_94 rfl ⟨_, rfl, h⟩
        · replace h := h.2 q
          refine wp_iload_n (i := 3) dX11_put_70 rfl rfl ?_
          refine wp_i2b dX11_put_71 ?_
          refine wp_goto (tgt := 92) dX11_put_72 (by decide) ?_
          refine wp_iast dX11_put_92 hR_7 ⟨h.1, ?_⟩
          refine wp_nm (fun σ17 e18 => ?_)
          replace h := h.2 σ17 e18
          refine wp_iconst (v := nI 1) dX11_put_93 rfl ?_
          exact wp_ireturn dX11_put_94 rfl ⟨_, rfl, h⟩
      · replace h := h.2 q
        refine wp_aload_n (i := 0) dX11_put_42 rfl rfl ?_
        refine wp_iload (i := 4) dX11_put_43 rfl ?_
        refine wp_callVI (vs := [.int y2]) (rest := []) dX11_put_45 mV_X11_error lm_X11_86 hR_0 rfl rfl rfl (Nat.le_of_ble_eq_true rfl) (CallI.mono h (fun y20 σ19 h => ?_))
        exact wp_ireturn dX11_put_48 rfl ⟨_, rfl, h⟩
    · replace h := h.2 q
      refine wp_ldc lc_X11_85 dX11_put_28 ?_
      refine wp_goto (tgt := 35) dX11_put_30 (by decide) ?_
      refine wp_istore (i := 4) (Lo' := [some (.ref 0), some (.int x1), some (.int x2), some (.int x3), some (.int (-1000000001 : Int32))]) dX11_put_35 (by decide) rfl rfl ?_
      refine wp_iload (i := 4) dX11_put_37 rfl ?_
      refine wp_ifeq (tgt := 49) dX11_put_39 (by decide) ⟨fun q => ?_, fun q => ?_⟩
      · replace h := h.1 q
        refine wp_aload_n (i := 0) dX11_put_49 rfl rfl ?_
        refine wp_getR (t := 7) dX11_put_50 lf_X11_28 hR_0 rfl ?_
        refine wp_bipush (v := nI 24) dX11_put_53 (by decide) ?_
        refine wp_iload_n (i := 1) dX11_put_55 rfl rfl ?_
        refine wp_imul dX11_put_56 ?_
        refine wp_iload_n (i := 2) dX11_put_57 rfl rfl ?_
        refine wp_iadd dX11_put_58 ?_
        refine wp_aload_n (i := 0) dX11_put_59 rfl rfl ?_
        refine wp_getR (t := 5) dX11_put_60 lf_X11_22 hR_0 rfl ?_
        refine wp_iload_n (i := 1) dX11_put_63 rfl rfl ?_
        refine wp_iald dX11_put_64 hR_5 ⟨h.1, ?_⟩
        replace h := h.2
        refine wp_bipush (v := nI 8) dX11_put_65 (by decide) ?_
        refine wp_icmpne (tgt := 75) dX11_put_67 (by decide) ⟨fun q => ?_, fun q => ?_⟩
        · replace h := h.1 q
          refine wp_aload_n (i := 0) dX11_put_75 rfl rfl ?_
          refine wp_getR (t := 5) dX11_put_76 lf_X11_22 hR_0 rfl ?_
          refine wp_iload_n (i := 1) dX11_put_79 rfl rfl ?_
          refine wp_iald dX11_put_80 hR_5 ⟨h.1, ?_⟩
          replace h := h.2
          refine wp_bipush (v := nI 16) dX11_put_81 (by decide) ?_
          refine wp_icmpne (tgt := 91) dX11_put_83 (by decide) ⟨fun q => ?_, fun q => ?_⟩
          · replace h := h.1 q
            refine wp_iload_n (i := 3) dX11_put_91 rfl rfl ?_
            refine wp_iast dX11_put_92 hR_7 ⟨h.1, ?_⟩
            refine wp_nm (fun σ21 e22 => ?_)
            replace h := h.2 σ21 e22
            refine wp_iconst (v := nI 1) dX11_put_93 rfl ?_
            exact wp_ireturn dX11_put_94 rfl ⟨_, rfl, h⟩
          · replace h := h.2 q
            refine wp_iload_n (i := 3) dX11_put_86 rfl rfl ?_
            refine wp_i2s dX11_put_87 ?_
            refine wp_goto (tgt := 92) dX11_put_88 (by decide) ?_
            refine wp_iast dX11_put_92 hR_7 ⟨h.1, ?_⟩
            refine wp_nm (fun σ23 e24 => ?_)
            replace h := h.2 σ23 e24
            refine wp_iconst (v := nI 1) dX11_put_93 rfl ?_
            exact wp_ireturn dX11_put_94 rfl ⟨_, rfl, h⟩
        · replace h := h.2 q
          refine wp_iload_n (i := 3) dX11_put_70 rfl rfl ?_
          refine wp_i2b dX11_put_71 ?_
          refine wp_goto (tgt := 92) dX11_put_72 (by decide) ?_
          refine wp_iast dX11_put_92 hR_7 ⟨h.1, ?_⟩
          refine wp_nm (fun σ25 e26 => ?_)
          replace h := h.2 σ25 e26
          refine wp_iconst (v := nI 1) dX11_put_93 rfl ?_
          exact wp_ireturn dX11_put_94 rfl ⟨_, rfl, h⟩
      · replace h := h.2 q
        refine wp_aload_n (i := 0) dX11_put_42 rfl rfl ?_
        refine wp_iload (i := 4) dX11_put_43 rfl ?_
        refine wp_callVI (vs := [.int (-1000000001 : Int32)]) (rest := []) dX11_put_45 mV_X11_error lm_X11_86 hR_0 rfl rfl rfl (Nat.le_of_ble_eq_true rfl) (CallI.mono h (fun y28 σ27 h => ?_))
        exact wp_ireturn dX11_put_48 rfl ⟨_, rfl, h⟩
set_option maxRecDepth 20000 in
set_option maxHeartbeats 2000000 in
theorem vc_Md_notMoved {E : KE} {d : Nat} {x1 : Int32} {x2 : Int32} {x3 : Int32} {x4 : Int32} {x5 : Int32} {σ : Sg} {K : Int32 → Sg → Prop} (h : CallI E shR d mX11_isSheet [.int x1] σ (fun y2 σ1 => (y2 = 0 → K (-1000000001 : Int32) σ1) ∧ (¬ y2 = 0 → CallI E shR d mX11_isSheet [.int x3] σ1 (fun y4 σ3 => (¬ y4 = 0 → vp_in x1 4 ∧ (((σ3 5 x1.toNatClampNeg) = 0 → K (-1000000002 : Int32) σ3) ∧ (¬ (σ3 5 x1.toNatClampNeg) = 0 → vp_in x3 4 ∧ ((¬ (σ3 5 x3.toNatClampNeg) = 0 → vp_in x1 4 ∧ (vp_in x3 4 ∧ (((σ3 5 x1.toNatClampNeg) = (σ3 5 x3.toNatClampNeg) → (x5 < 0 → ((nI 0) = 0 → K (-1000000001 : Int32) σ3) ∧ (¬ (nI 0) = 0 → K (nI 0) σ3)) ∧ (¬ x5 < 0 → (x2 < 0 → ((nI 0) = 0 → K (-1000000001 : Int32) σ3) ∧ (¬ (nI 0) = 0 → K (nI 0) σ3)) ∧ (¬ x2 < 0 → (x4 < 0 → ((nI 0) = 0 → K (-1000000001 : Int32) σ3) ∧ (¬ (nI 0) = 0 → K (nI 0) σ3)) ∧ (¬ x4 < 0 → vp_in x1 4 ∧ ((((σ3 6 x1.toNatClampNeg) - x2) < x5 → ((nI 0) = 0 → K (-1000000001 : Int32) σ3) ∧ (¬ (nI 0) = 0 → K (nI 0) σ3)) ∧ (¬ ((σ3 6 x1.toNatClampNeg) - x2) < x5 → vp_in x3 4 ∧ ((((σ3 6 x3.toNatClampNeg) - x4) < x5 → ((nI 0) = 0 → K (-1000000001 : Int32) σ3) ∧ (¬ (nI 0) = 0 → K (nI 0) σ3)) ∧ (¬ ((σ3 6 x3.toNatClampNeg) - x4) < x5 → ((nI 1) = 0 → K (-1000000001 : Int32) σ3) ∧ (¬ (nI 1) = 0 → K (nI 0) σ3))))))))) ∧ (¬ (σ3 5 x1.toNatClampNeg) = (σ3 5 x3.toNatClampNeg) → K (-1000000005 : Int32) σ3)))) ∧ ((σ3 5 x3.toNatClampNeg) = 0 → K (-1000000002 : Int32) σ3))))) ∧ (y4 = 0 → K (-1000000001 : Int32) σ3))))) : CallI E shR (d + 1) mX11_notMoved [.ref 0, .int x1, .int x2, .int x3, .int x4, .int x5] σ K := by
  refine wp_enter (Lo := [some (.ref 0), some (.int x1), some (.int x2), some (.int x3), some (.int x4), some (.int x5), none]) mp_X11_notMoved (Nat.le_of_ble_eq_true rfl) rfl ?_
  refine wp_iload_n (i := 1) dX11_notMoved_0 rfl rfl ?_
  refine wp_callSI (vs := [.int x1]) (rest := []) dX11_notMoved_1 mS_X11_isSheet lm_X11_275 rfl rfl (Nat.le_of_ble_eq_true rfl) (CallI.mono h (fun y2 σ1 h => ?_))
  refine wp_ifeq (tgt := 14) dX11_notMoved_4 (by decide) ⟨fun q => ?_, fun q => ?_⟩
  · replace h := h.1 q
    refine wp_ldc lc_X11_85 dX11_notMoved_14 ?_
    exact wp_ireturn dX11_notMoved_16 rfl ⟨_, rfl, h⟩
  · replace h := h.2 q
    refine wp_iload_n (i := 3) dX11_notMoved_7 rfl rfl ?_
    refine wp_callSI (vs := [.int x3]) (rest := []) dX11_notMoved_8 mS_X11_isSheet lm_X11_275 rfl rfl (Nat.le_of_ble_eq_true rfl) (CallI.mono h (fun y4 σ3 h => ?_))
    refine wp_ifne (tgt := 17) dX11_notMoved_11 (by decide) ⟨fun q => ?_, fun q => ?_⟩
    · replace h := h.1 q
      refine wp_aload_n (i := 0) dX11_notMoved_17 rfl rfl ?_
      refine wp_getR (t := 5) dX11_notMoved_18 lf_X11_22 hR_0 rfl ?_
      refine wp_iload_n (i := 1) dX11_notMoved_21 rfl rfl ?_
      refine wp_iald dX11_notMoved_22 hR_5 ⟨h.1, ?_⟩
      replace h := h.2
      refine wp_ifeq (tgt := 35) dX11_notMoved_23 (by decide) ⟨fun q => ?_, fun q => ?_⟩
      · replace h := h.1 q
        refine wp_ldc lc_X11_209 dX11_notMoved_35 ?_
        exact wp_ireturn dX11_notMoved_37 rfl ⟨_, rfl, h⟩
      · replace h := h.2 q
        refine wp_aload_n (i := 0) dX11_notMoved_26 rfl rfl ?_
        refine wp_getR (t := 5) dX11_notMoved_27 lf_X11_22 hR_0 rfl ?_
        refine wp_iload_n (i := 3) dX11_notMoved_30 rfl rfl ?_
        refine wp_iald dX11_notMoved_31 hR_5 ⟨h.1, ?_⟩
        replace h := h.2
        refine wp_ifne (tgt := 38) dX11_notMoved_32 (by decide) ⟨fun q => ?_, fun q => ?_⟩
        · replace h := h.1 q
          refine wp_aload_n (i := 0) dX11_notMoved_38 rfl rfl ?_
          refine wp_getR (t := 5) dX11_notMoved_39 lf_X11_22 hR_0 rfl ?_
          refine wp_iload_n (i := 1) dX11_notMoved_42 rfl rfl ?_
          refine wp_iald dX11_notMoved_43 hR_5 ⟨h.1, ?_⟩
          replace h := h.2
          refine wp_aload_n (i := 0) dX11_notMoved_44 rfl rfl ?_
          refine wp_getR (t := 5) dX11_notMoved_45 lf_X11_22 hR_0 rfl ?_
          refine wp_iload_n (i := 3) dX11_notMoved_48 rfl rfl ?_
          refine wp_iald dX11_notMoved_49 hR_5 ⟨h.1, ?_⟩
          replace h := h.2
          refine wp_icmpeq (tgt := 56) dX11_notMoved_50 (by decide) ⟨fun q => ?_, fun q => ?_⟩
          · replace h := h.1 q
            refine wp_iload (i := 5) dX11_notMoved_56 rfl ?_
            refine wp_iflt (tgt := 101) dX11_notMoved_58 (by decide) ⟨fun q => ?_, fun q => ?_⟩
            · replace h := h.1 q
              refine wp_iconst (v := nI 0) dX11_notMoved_101 rfl ?_
              refine wp_istore (i := 6) (Lo' := [some (.ref 0), some (.int x1), some (.int x2), some (.int x3), some (.int x4), some (.int x5), some (.int (nI 0))]) dX11_notMoved_102 (by decide) rfl rfl ?_
              refine wp_iload (i := 6) dX11_notMoved_104 rfl ?_
              refine wp_ifeq (tgt := 113) dX11_notMoved_106 (by decide) ⟨fun q => ?_, fun q => ?_⟩
              · replace h := h.1 q
                refine wp_ldc lc_X11_85 dX11_notMoved_113 ?_
                exact wp_ireturn dX11_notMoved_115 rfl ⟨_, rfl, h⟩
              · replace h := h.2 q
                refine wp_iconst (v := nI 0) dX11_notMoved_109 rfl ?_
                refine wp_goto (tgt := 115) dX11_notMoved_110 (by decide) ?_
                exact wp_ireturn dX11_notMoved_115 rfl ⟨_, rfl, h⟩
            · replace h := h.2 q
              refine wp_iload_n (i := 2) dX11_notMoved_61 rfl rfl ?_
              refine wp_iflt (tgt := 101) dX11_notMoved_62 (by decide) ⟨fun q => ?_, fun q => ?_⟩
              · replace h := h.1 q
                refine wp_iconst (v := nI 0) dX11_notMoved_101 rfl ?_
                refine wp_istore (i := 6) (Lo' := [some (.ref 0), some (.int x1), some (.int x2), some (.int x3), some (.int x4), some (.int x5), some (.int (nI 0))]) dX11_notMoved_102 (by decide) rfl rfl ?_
                refine wp_iload (i := 6) dX11_notMoved_104 rfl ?_
                refine wp_ifeq (tgt := 113) dX11_notMoved_106 (by decide) ⟨fun q => ?_, fun q => ?_⟩
                · replace h := h.1 q
                  refine wp_ldc lc_X11_85 dX11_notMoved_113 ?_
                  exact wp_ireturn dX11_notMoved_115 rfl ⟨_, rfl, h⟩
                · replace h := h.2 q
                  refine wp_iconst (v := nI 0) dX11_notMoved_109 rfl ?_
                  refine wp_goto (tgt := 115) dX11_notMoved_110 (by decide) ?_
                  exact wp_ireturn dX11_notMoved_115 rfl ⟨_, rfl, h⟩
              · replace h := h.2 q
                refine wp_iload (i := 4) dX11_notMoved_65 rfl ?_
                refine wp_iflt (tgt := 101) dX11_notMoved_67 (by decide) ⟨fun q => ?_, fun q => ?_⟩
                · replace h := h.1 q
                  refine wp_iconst (v := nI 0) dX11_notMoved_101 rfl ?_
                  refine wp_istore (i := 6) (Lo' := [some (.ref 0), some (.int x1), some (.int x2), some (.int x3), some (.int x4), some (.int x5), some (.int (nI 0))]) dX11_notMoved_102 (by decide) rfl rfl ?_
                  refine wp_iload (i := 6) dX11_notMoved_104 rfl ?_
                  refine wp_ifeq (tgt := 113) dX11_notMoved_106 (by decide) ⟨fun q => ?_, fun q => ?_⟩
                  · replace h := h.1 q
                    refine wp_ldc lc_X11_85 dX11_notMoved_113 ?_
                    exact wp_ireturn dX11_notMoved_115 rfl ⟨_, rfl, h⟩
                  · replace h := h.2 q
                    refine wp_iconst (v := nI 0) dX11_notMoved_109 rfl ?_
                    refine wp_goto (tgt := 115) dX11_notMoved_110 (by decide) ?_
                    exact wp_ireturn dX11_notMoved_115 rfl ⟨_, rfl, h⟩
                · replace h := h.2 q
                  refine wp_iload (i := 5) dX11_notMoved_70 rfl ?_
                  refine wp_aload_n (i := 0) dX11_notMoved_72 rfl rfl ?_
                  refine wp_getR (t := 6) dX11_notMoved_73 lf_X11_25 hR_0 rfl ?_
                  refine wp_iload_n (i := 1) dX11_notMoved_76 rfl rfl ?_
                  refine wp_iald dX11_notMoved_77 hR_6 ⟨h.1, ?_⟩
                  replace h := h.2
                  refine wp_iload_n (i := 2) dX11_notMoved_78 rfl rfl ?_
                  refine wp_isub dX11_notMoved_79 ?_
                  refine wp_icmpgt (tgt := 101) dX11_notMoved_80 (by decide) ⟨fun q => ?_, fun q => ?_⟩
                  · replace h := h.1 q
                    refine wp_iconst (v := nI 0) dX11_notMoved_101 rfl ?_
                    refine wp_istore (i := 6) (Lo' := [some (.ref 0), some (.int x1), some (.int x2), some (.int x3), some (.int x4), some (.int x5), some (.int (nI 0))]) dX11_notMoved_102 (by decide) rfl rfl ?_
                    refine wp_iload (i := 6) dX11_notMoved_104 rfl ?_
                    refine wp_ifeq (tgt := 113) dX11_notMoved_106 (by decide) ⟨fun q => ?_, fun q => ?_⟩
                    · replace h := h.1 q
                      refine wp_ldc lc_X11_85 dX11_notMoved_113 ?_
                      exact wp_ireturn dX11_notMoved_115 rfl ⟨_, rfl, h⟩
                    · replace h := h.2 q
                      refine wp_iconst (v := nI 0) dX11_notMoved_109 rfl ?_
                      refine wp_goto (tgt := 115) dX11_notMoved_110 (by decide) ?_
                      exact wp_ireturn dX11_notMoved_115 rfl ⟨_, rfl, h⟩
                  · replace h := h.2 q
                    refine wp_iload (i := 5) dX11_notMoved_83 rfl ?_
                    refine wp_aload_n (i := 0) dX11_notMoved_85 rfl rfl ?_
                    refine wp_getR (t := 6) dX11_notMoved_86 lf_X11_25 hR_0 rfl ?_
                    refine wp_iload_n (i := 3) dX11_notMoved_89 rfl rfl ?_
                    refine wp_iald dX11_notMoved_90 hR_6 ⟨h.1, ?_⟩
                    replace h := h.2
                    refine wp_iload (i := 4) dX11_notMoved_91 rfl ?_
                    refine wp_isub dX11_notMoved_93 ?_
                    refine wp_icmpgt (tgt := 101) dX11_notMoved_94 (by decide) ⟨fun q => ?_, fun q => ?_⟩
                    · replace h := h.1 q
                      refine wp_iconst (v := nI 0) dX11_notMoved_101 rfl ?_
                      refine wp_istore (i := 6) (Lo' := [some (.ref 0), some (.int x1), some (.int x2), some (.int x3), some (.int x4), some (.int x5), some (.int (nI 0))]) dX11_notMoved_102 (by decide) rfl rfl ?_
                      refine wp_iload (i := 6) dX11_notMoved_104 rfl ?_
                      refine wp_ifeq (tgt := 113) dX11_notMoved_106 (by decide) ⟨fun q => ?_, fun q => ?_⟩
                      · replace h := h.1 q
                        refine wp_ldc lc_X11_85 dX11_notMoved_113 ?_
                        exact wp_ireturn dX11_notMoved_115 rfl ⟨_, rfl, h⟩
                      · replace h := h.2 q
                        refine wp_iconst (v := nI 0) dX11_notMoved_109 rfl ?_
                        refine wp_goto (tgt := 115) dX11_notMoved_110 (by decide) ?_
                        exact wp_ireturn dX11_notMoved_115 rfl ⟨_, rfl, h⟩
                    · replace h := h.2 q
                      refine wp_iconst (v := nI 1) dX11_notMoved_97 rfl ?_
                      refine wp_goto (tgt := 102) dX11_notMoved_98 (by decide) ?_
                      refine wp_istore (i := 6) (Lo' := [some (.ref 0), some (.int x1), some (.int x2), some (.int x3), some (.int x4), some (.int x5), some (.int (nI 1))]) dX11_notMoved_102 (by decide) rfl rfl ?_
                      refine wp_iload (i := 6) dX11_notMoved_104 rfl ?_
                      refine wp_ifeq (tgt := 113) dX11_notMoved_106 (by decide) ⟨fun q => ?_, fun q => ?_⟩
                      · replace h := h.1 q
                        refine wp_ldc lc_X11_85 dX11_notMoved_113 ?_
                        exact wp_ireturn dX11_notMoved_115 rfl ⟨_, rfl, h⟩
                      · replace h := h.2 q
                        refine wp_iconst (v := nI 0) dX11_notMoved_109 rfl ?_
                        refine wp_goto (tgt := 115) dX11_notMoved_110 (by decide) ?_
                        exact wp_ireturn dX11_notMoved_115 rfl ⟨_, rfl, h⟩
          · replace h := h.2 q
            refine wp_ldc lc_X11_98 dX11_notMoved_53 ?_
            exact wp_ireturn dX11_notMoved_55 rfl ⟨_, rfl, h⟩
        · replace h := h.2 q
          refine wp_ldc lc_X11_209 dX11_notMoved_35 ?_
          exact wp_ireturn dX11_notMoved_37 rfl ⟨_, rfl, h⟩
    · replace h := h.2 q
      refine wp_ldc lc_X11_85 dX11_notMoved_14 ?_
      exact wp_ireturn dX11_notMoved_16 rfl ⟨_, rfl, h⟩
set_option maxRecDepth 20000 in
set_option maxHeartbeats 2000000 in
theorem vb_Md_move_28 {E : KE} {d : Nat} {x1 : Int32} {x2 : Int32} {x3 : Int32} {x4 : Int32} {x5 : Int32} {x7 : Int32} {σ : Sg} {K : Int32 → Sg → Prop} (h : (x5 ≤ x7 → K x5 σ) ∧ (¬ x5 ≤ x7 → (x4 ≤ x2 → vp_in ((((nI 24) * x1) + x2) + x7) 96 ∧ (vp_in ((((nI 24) * x3) + x4) + x7) 96 ∧ (∀ σ1, σ1 = k_put σ 7 (upd (σ 7) ((((nI 24) * x3) + x4) + x7).toNatClampNeg (σ 7 ((((nI 24) * x1) + x2) + x7).toNatClampNeg)) → WP E shR mX11_move (d + 1) 28 [some (.ref 0), some (.int x1), some (.int x2), some (.int x3), some (.int x4), some (.int x5), none, some (.int (x7 + nI 1)), none] [] σ1 (k_qi K)))) ∧ (¬ x4 ≤ x2 → vp_in ((((nI 24) * x1) + x2) + ((x5 - (nI 1)) - x7)) 96 ∧ (vp_in ((((nI 24) * x3) + x4) + ((x5 - (nI 1)) - x7)) 96 ∧ (∀ σ3, σ3 = k_put σ 7 (upd (σ 7) ((((nI 24) * x3) + x4) + ((x5 - (nI 1)) - x7)).toNatClampNeg (σ 7 ((((nI 24) * x1) + x2) + ((x5 - (nI 1)) - x7)).toNatClampNeg)) → WP E shR mX11_move (d + 1) 28 [some (.ref 0), some (.int x1), some (.int x2), some (.int x3), some (.int x4), some (.int x5), none, some (.int (x7 + nI 1)), none] [] σ3 (k_qi K)))))) : WP E shR mX11_move (d + 1) 28 [some (.ref 0), some (.int x1), some (.int x2), some (.int x3), some (.int x4), some (.int x5), none, some (.int x7), none] [] σ (k_qi K) := by
  refine wp_iload (i := 7) dX11_move_28 rfl ?_
  refine wp_iload (i := 5) dX11_move_30 rfl ?_
  refine wp_icmpge (tgt := 90) dX11_move_32 (by decide) ⟨fun q => ?_, fun q => ?_⟩
  · replace h := h.1 q
    refine wp_iload (i := 5) dX11_move_90 rfl ?_
    exact wp_ireturn dX11_move_92 rfl ⟨_, rfl, h⟩
  · replace h := h.2 q
    refine wp_iload_n (i := 2) dX11_move_35 rfl rfl ?_
    refine wp_iload (i := 4) dX11_move_36 rfl ?_
    refine wp_icmpge (tgt := 51) dX11_move_38 (by decide) ⟨fun q => ?_, fun q => ?_⟩
    · replace h := h.1 q
      refine wp_iload (i := 7) dX11_move_51 rfl ?_
      refine wp_istore (i := 8) (Lo' := [some (.ref 0), some (.int x1), some (.int x2), some (.int x3), some (.int x4), some (.int x5), none, some (.int x7), some (.int x7)]) dX11_move_53 (by decide) rfl rfl ?_
      refine wp_aload_n (i := 0) dX11_move_55 rfl rfl ?_
      refine wp_getR (t := 7) dX11_move_56 lf_X11_28 hR_0 rfl ?_
      refine wp_bipush (v := nI 24) dX11_move_59 (by decide) ?_
      refine wp_iload_n (i := 3) dX11_move_61 rfl rfl ?_
      refine wp_imul dX11_move_62 ?_
      refine wp_iload (i := 4) dX11_move_63 rfl ?_
      refine wp_iadd dX11_move_65 ?_
      refine wp_iload (i := 8) dX11_move_66 rfl ?_
      refine wp_iadd dX11_move_68 ?_
      refine wp_aload_n (i := 0) dX11_move_69 rfl rfl ?_
      refine wp_getR (t := 7) dX11_move_70 lf_X11_28 hR_0 rfl ?_
      refine wp_bipush (v := nI 24) dX11_move_73 (by decide) ?_
      refine wp_iload_n (i := 1) dX11_move_75 rfl rfl ?_
      refine wp_imul dX11_move_76 ?_
      refine wp_iload_n (i := 2) dX11_move_77 rfl rfl ?_
      refine wp_iadd dX11_move_78 ?_
      refine wp_iload (i := 8) dX11_move_79 rfl ?_
      refine wp_iadd dX11_move_81 ?_
      refine wp_iald dX11_move_82 hR_7 ⟨h.1, ?_⟩
      replace h := h.2
      refine wp_iast dX11_move_83 hR_7 ⟨h.1, ?_⟩
      refine wp_nm (fun σ1 e2 => ?_)
      replace h := h.2 σ1 e2
      refine wp_iinc (i := 7) (v := x7 + nI 1) (Lo' := [some (.ref 0), some (.int x1), some (.int x2), some (.int x3), some (.int x4), some (.int x5), none, some (.int (x7 + nI 1)), some (.int x7)]) dX11_move_84 rfl (by rfl) (by decide) rfl rfl ?_
      refine wp_goto (tgt := 28) dX11_move_87 (by decide) ?_
      exact wp_mask [true, true, true, true, true, true, false, true, false] h
    · replace h := h.2 q
      refine wp_iload (i := 5) dX11_move_41 rfl ?_
      refine wp_iconst (v := nI 1) dX11_move_43 rfl ?_
      refine wp_isub dX11_move_44 ?_
      refine wp_iload (i := 7) dX11_move_45 rfl ?_
      refine wp_isub dX11_move_47 ?_
      refine wp_goto (tgt := 53) dX11_move_48 (by decide) ?_
      refine wp_istore (i := 8) (Lo' := [some (.ref 0), some (.int x1), some (.int x2), some (.int x3), some (.int x4), some (.int x5), none, some (.int x7), some (.int ((x5 - (nI 1)) - x7))]) dX11_move_53 (by decide) rfl rfl ?_
      refine wp_aload_n (i := 0) dX11_move_55 rfl rfl ?_
      refine wp_getR (t := 7) dX11_move_56 lf_X11_28 hR_0 rfl ?_
      refine wp_bipush (v := nI 24) dX11_move_59 (by decide) ?_
      refine wp_iload_n (i := 3) dX11_move_61 rfl rfl ?_
      refine wp_imul dX11_move_62 ?_
      refine wp_iload (i := 4) dX11_move_63 rfl ?_
      refine wp_iadd dX11_move_65 ?_
      refine wp_iload (i := 8) dX11_move_66 rfl ?_
      refine wp_iadd dX11_move_68 ?_
      refine wp_aload_n (i := 0) dX11_move_69 rfl rfl ?_
      refine wp_getR (t := 7) dX11_move_70 lf_X11_28 hR_0 rfl ?_
      refine wp_bipush (v := nI 24) dX11_move_73 (by decide) ?_
      refine wp_iload_n (i := 1) dX11_move_75 rfl rfl ?_
      refine wp_imul dX11_move_76 ?_
      refine wp_iload_n (i := 2) dX11_move_77 rfl rfl ?_
      refine wp_iadd dX11_move_78 ?_
      refine wp_iload (i := 8) dX11_move_79 rfl ?_
      refine wp_iadd dX11_move_81 ?_
      refine wp_iald dX11_move_82 hR_7 ⟨h.1, ?_⟩
      replace h := h.2
      refine wp_iast dX11_move_83 hR_7 ⟨h.1, ?_⟩
      refine wp_nm (fun σ3 e4 => ?_)
      replace h := h.2 σ3 e4
      refine wp_iinc (i := 7) (v := x7 + nI 1) (Lo' := [some (.ref 0), some (.int x1), some (.int x2), some (.int x3), some (.int x4), some (.int x5), none, some (.int (x7 + nI 1)), some (.int ((x5 - (nI 1)) - x7))]) dX11_move_84 rfl (by rfl) (by decide) rfl rfl ?_
      refine wp_goto (tgt := 28) dX11_move_87 (by decide) ?_
      exact wp_mask [true, true, true, true, true, true, false, true, false] h
set_option maxRecDepth 20000 in
set_option maxHeartbeats 2000000 in
theorem vc_Md_move {E : KE} {d : Nat} {x1 : Int32} {x2 : Int32} {x3 : Int32} {x4 : Int32} {x5 : Int32} {σ : Sg} {K : Int32 → Sg → Prop} (h : CallI E shR d mX11_notMoved [.ref 0, .int x1, .int x2, .int x3, .int x4, .int x5] σ (fun y2 σ1 => (y2 = 0 → WP E shR mX11_move (d + 1) 28 [some (.ref 0), some (.int x1), some (.int x2), some (.int x3), some (.int x4), some (.int x5), none, some (.int (nI 0)), none] [] σ1 (k_qi K)) ∧ (¬ y2 = 0 → CallI E shR d mX11_error [.ref 0, .int y2] σ1 (fun y4 σ3 => K y4 σ3)))) : CallI E shR (d + 1) mX11_move [.ref 0, .int x1, .int x2, .int x3, .int x4, .int x5] σ K := by
  refine wp_enter (Lo := [some (.ref 0), some (.int x1), some (.int x2), some (.int x3), some (.int x4), some (.int x5), none, none, none]) mp_X11_move (Nat.le_of_ble_eq_true rfl) rfl ?_
  refine wp_aload_n (i := 0) dX11_move_0 rfl rfl ?_
  refine wp_iload_n (i := 1) dX11_move_1 rfl rfl ?_
  refine wp_iload_n (i := 2) dX11_move_2 rfl rfl ?_
  refine wp_iload_n (i := 3) dX11_move_3 rfl rfl ?_
  refine wp_iload (i := 4) dX11_move_4 rfl ?_
  refine wp_iload (i := 5) dX11_move_6 rfl ?_
  refine wp_callVI (vs := [.int x1, .int x2, .int x3, .int x4, .int x5]) (rest := []) dX11_move_8 mV_X11_notMoved lm_X11_278 hR_0 rfl rfl rfl (Nat.le_of_ble_eq_true rfl) (CallI.mono h (fun y2 σ1 h => ?_))
  refine wp_istore (i := 6) (Lo' := [some (.ref 0), some (.int x1), some (.int x2), some (.int x3), some (.int x4), some (.int x5), some (.int y2), none, none]) dX11_move_11 (by decide) rfl rfl ?_
  refine wp_iload (i := 6) dX11_move_13 rfl ?_
  refine wp_ifeq (tgt := 25) dX11_move_15 (by decide) ⟨fun q => ?_, fun q => ?_⟩
  · replace h := h.1 q
    refine wp_iconst (v := nI 0) dX11_move_25 rfl ?_
    refine wp_istore (i := 7) (Lo' := [some (.ref 0), some (.int x1), some (.int x2), some (.int x3), some (.int x4), some (.int x5), some (.int y2), some (.int (nI 0)), none]) dX11_move_26 (by decide) rfl rfl ?_
    exact wp_mask [true, true, true, true, true, true, false, true, false] h
  · replace h := h.2 q
    refine wp_aload_n (i := 0) dX11_move_18 rfl rfl ?_
    refine wp_iload (i := 6) dX11_move_19 rfl ?_
    refine wp_callVI (vs := [.int y2]) (rest := []) dX11_move_21 mV_X11_error lm_X11_86 hR_0 rfl rfl rfl (Nat.le_of_ble_eq_true rfl) (CallI.mono h (fun y4 σ3 h => ?_))
    exact wp_ireturn dX11_move_24 rfl ⟨_, rfl, h⟩
set_option maxRecDepth 20000 in
set_option maxHeartbeats 2000000 in
theorem vb_Md_funds_18 {E : KE} {d : Nat} {x1 : Int32} {x3 : Int32} {σ : Sg} {K : Int32 → Sg → Prop} (h : vp_in x1 4 ∧ (((σ 6 x1.toNatClampNeg) ≤ x3 → K x3 σ) ∧ (¬ (σ 6 x1.toNatClampNeg) ≤ x3 → vp_in (nI 2) 552 ∧ (((σ 1 (nI 2).toNatClampNeg) ≤ x3 → K x3 σ) ∧ (¬ (σ 1 (nI 2).toNatClampNeg) ≤ x3 → vp_in (((nI 24) * x1) + x3) 96 ∧ (CallI E shR d mX11_in [.int (σ 7 (((nI 24) * x1) + x3).toNatClampNeg), .int (nI 0), .int (nI 9999)] σ (fun y2 σ1 => (y2 = 0 → K x3 σ1) ∧ (¬ y2 = 0 → vp_in (((nI 24) * x1) + x3) 96 ∧ (CallN E shR d mX11_lay [.ref 0, .int x3, .int (nI 3), .int (σ1 7 (((nI 24) * x1) + x3).toNatClampNeg)] σ1 (fun σ3 => WP E shR mX11_funds (d + 1) 18 [some (.ref 0), some (.int x1), none, some (.int (x3 + nI 1))] [] σ3 (k_qi K))))))))))) : WP E shR mX11_funds (d + 1) 18 [some (.ref 0), some (.int x1), none, some (.int x3)] [] σ (k_qi K) := by
  refine wp_iload_n (i := 3) dX11_funds_18 rfl rfl ?_
  refine wp_aload_n (i := 0) dX11_funds_19 rfl rfl ?_
  refine wp_getR (t := 6) dX11_funds_20 lf_X11_25 hR_0 rfl ?_
  refine wp_iload_n (i := 1) dX11_funds_23 rfl rfl ?_
  refine wp_iald dX11_funds_24 hR_6 ⟨h.1, ?_⟩
  replace h := h.2
  refine wp_icmpge (tgt := 82) dX11_funds_25 (by decide) ⟨fun q => ?_, fun q => ?_⟩
  · replace h := h.1 q
    refine wp_iload_n (i := 3) dX11_funds_82 rfl rfl ?_
    exact wp_ireturn dX11_funds_83 rfl ⟨_, rfl, h⟩
  · replace h := h.2 q
    refine wp_iload_n (i := 3) dX11_funds_28 rfl rfl ?_
    refine wp_aload_n (i := 0) dX11_funds_29 rfl rfl ?_
    refine wp_getR (t := 1) dX11_funds_30 lf_X11_9 hR_0 rfl ?_
    refine wp_iconst (v := nI 2) dX11_funds_33 rfl ?_
    refine wp_iald dX11_funds_34 hR_1 ⟨h.1, ?_⟩
    replace h := h.2
    refine wp_icmpge (tgt := 82) dX11_funds_35 (by decide) ⟨fun q => ?_, fun q => ?_⟩
    · replace h := h.1 q
      refine wp_iload_n (i := 3) dX11_funds_82 rfl rfl ?_
      exact wp_ireturn dX11_funds_83 rfl ⟨_, rfl, h⟩
    · replace h := h.2 q
      refine wp_aload_n (i := 0) dX11_funds_38 rfl rfl ?_
      refine wp_getR (t := 7) dX11_funds_39 lf_X11_28 hR_0 rfl ?_
      refine wp_bipush (v := nI 24) dX11_funds_42 (by decide) ?_
      refine wp_iload_n (i := 1) dX11_funds_44 rfl rfl ?_
      refine wp_imul dX11_funds_45 ?_
      refine wp_iload_n (i := 3) dX11_funds_46 rfl rfl ?_
      refine wp_iadd dX11_funds_47 ?_
      refine wp_iald dX11_funds_48 hR_7 ⟨h.1, ?_⟩
      replace h := h.2
      refine wp_iconst (v := nI 0) dX11_funds_49 rfl ?_
      refine wp_sipush (v := nI 9999) dX11_funds_50 (by decide) ?_
      refine wp_callSI (vs := [.int (σ 7 (((nI 24) * x1) + x3).toNatClampNeg), .int (nI 0), .int (nI 9999)]) (rest := []) dX11_funds_53 mS_X11_in lm_X11_53 rfl rfl (Nat.le_of_ble_eq_true rfl) (CallI.mono h (fun y2 σ1 h => ?_))
      refine wp_ifeq (tgt := 82) dX11_funds_56 (by decide) ⟨fun q => ?_, fun q => ?_⟩
      · replace h := h.1 q
        refine wp_iload_n (i := 3) dX11_funds_82 rfl rfl ?_
        exact wp_ireturn dX11_funds_83 rfl ⟨_, rfl, h⟩
      · replace h := h.2 q
        refine wp_aload_n (i := 0) dX11_funds_59 rfl rfl ?_
        refine wp_iload_n (i := 3) dX11_funds_60 rfl rfl ?_
        refine wp_iconst (v := nI 3) dX11_funds_61 rfl ?_
        refine wp_aload_n (i := 0) dX11_funds_62 rfl rfl ?_
        refine wp_getR (t := 7) dX11_funds_63 lf_X11_28 hR_0 rfl ?_
        refine wp_bipush (v := nI 24) dX11_funds_66 (by decide) ?_
        refine wp_iload_n (i := 1) dX11_funds_68 rfl rfl ?_
        refine wp_imul dX11_funds_69 ?_
        refine wp_iload_n (i := 3) dX11_funds_70 rfl rfl ?_
        refine wp_iadd dX11_funds_71 ?_
        refine wp_iald dX11_funds_72 hR_7 ⟨h.1, ?_⟩
        replace h := h.2
        refine wp_callVN (vs := [.int x3, .int (nI 3), .int (σ1 7 (((nI 24) * x1) + x3).toNatClampNeg)]) (rest := []) dX11_funds_73 mV_X11_lay lm_X11_91 hR_0 rfl rfl rfl (Nat.le_of_ble_eq_true rfl) (CallN.mono h (fun σ3 h => ?_))
        refine wp_iinc (i := 3) (v := x3 + nI 1) (Lo' := [some (.ref 0), some (.int x1), none, some (.int (x3 + nI 1))]) dX11_funds_76 rfl (by rfl) (by decide) rfl rfl ?_
        refine wp_goto (tgt := 18) dX11_funds_79 (by decide) ?_
        exact wp_mask [true, true, false, true] h
set_option maxRecDepth 20000 in
set_option maxHeartbeats 2000000 in
theorem vc_Md_funds {E : KE} {d : Nat} {x1 : Int32} {σ : Sg} {K : Int32 → Sg → Prop} (h : CallI E shR d mX11_notThere [.ref 0, .int x1] σ (fun y2 σ1 => (y2 = 0 → WP E shR mX11_funds (d + 1) 18 [some (.ref 0), some (.int x1), none, some (.int (nI 0))] [] σ1 (k_qi K)) ∧ (¬ y2 = 0 → CallI E shR d mX11_error [.ref 0, .int y2] σ1 (fun y4 σ3 => K y4 σ3)))) : CallI E shR (d + 1) mX11_funds [.ref 0, .int x1] σ K := by
  refine wp_enter (Lo := [some (.ref 0), some (.int x1), none, none]) mp_X11_funds (Nat.le_of_ble_eq_true rfl) rfl ?_
  refine wp_aload_n (i := 0) dX11_funds_0 rfl rfl ?_
  refine wp_iload_n (i := 1) dX11_funds_1 rfl rfl ?_
  refine wp_callVI (vs := [.int x1]) (rest := []) dX11_funds_2 mV_X11_notThere lm_X11_232 hR_0 rfl rfl rfl (Nat.le_of_ble_eq_true rfl) (CallI.mono h (fun y2 σ1 h => ?_))
  refine wp_istore_n (i := 2) (Lo' := [some (.ref 0), some (.int x1), some (.int y2), none]) dX11_funds_5 rfl (by decide) rfl rfl ?_
  refine wp_iload_n (i := 2) dX11_funds_6 rfl rfl ?_
  refine wp_ifeq (tgt := 16) dX11_funds_7 (by decide) ⟨fun q => ?_, fun q => ?_⟩
  · replace h := h.1 q
    refine wp_iconst (v := nI 0) dX11_funds_16 rfl ?_
    refine wp_istore_n (i := 3) (Lo' := [some (.ref 0), some (.int x1), some (.int y2), some (.int (nI 0))]) dX11_funds_17 rfl (by decide) rfl rfl ?_
    exact wp_mask [true, true, false, true] h
  · replace h := h.2 q
    refine wp_aload_n (i := 0) dX11_funds_10 rfl rfl ?_
    refine wp_iload_n (i := 2) dX11_funds_11 rfl rfl ?_
    refine wp_callVI (vs := [.int y2]) (rest := []) dX11_funds_12 mV_X11_error lm_X11_86 hR_0 rfl rfl rfl (Nat.le_of_ble_eq_true rfl) (CallI.mono h (fun y4 σ3 h => ?_))
    exact wp_ireturn dX11_funds_15 rfl ⟨_, rfl, h⟩
set_option maxRecDepth 20000 in
set_option maxHeartbeats 2000000 in
theorem vb_Md_judge_18 {E : KE} {d : Nat} {x1 : Int32} {x3 : Int32} {σ : Sg} {K : Int32 → Sg → Prop} (h : vp_in x1 4 ∧ (((σ 6 x1.toNatClampNeg) ≤ x3 → K x3 σ) ∧ (¬ (σ 6 x1.toNatClampNeg) ≤ x3 → vp_in (((nI 24) * x1) + x3) 96 ∧ (vp_in (nI 0) 552 ∧ (CallI E shR d mX11_manyUp [.ref 0, .int (((σ 1 (nI 0).toNatClampNeg) + x3) - ((σ 1 (nI 0).toNatClampNeg) + x3) / (nI 28) * (nI 28))] σ (fun y2 σ1 => (¬ (σ 7 (((nI 24) * x1) + x3).toNatClampNeg) = y2 → K x3 σ1) ∧ ((σ 7 (((nI 24) * x1) + x3).toNatClampNeg) = y2 → WP E shR mX11_judge (d + 1) 18 [some (.ref 0), some (.int x1), none, some (.int (x3 + nI 1))] [] σ1 (k_qi K)))))))) : WP E shR mX11_judge (d + 1) 18 [some (.ref 0), some (.int x1), none, some (.int x3)] [] σ (k_qi K) := by
  refine wp_iload_n (i := 3) dX11_judge_18 rfl rfl ?_
  refine wp_aload_n (i := 0) dX11_judge_19 rfl rfl ?_
  refine wp_getR (t := 6) dX11_judge_20 lf_X11_25 hR_0 rfl ?_
  refine wp_iload_n (i := 1) dX11_judge_23 rfl rfl ?_
  refine wp_iald dX11_judge_24 hR_6 ⟨h.1, ?_⟩
  replace h := h.2
  refine wp_icmpge (tgt := 63) dX11_judge_25 (by decide) ⟨fun q => ?_, fun q => ?_⟩
  · replace h := h.1 q
    refine wp_iload_n (i := 3) dX11_judge_63 rfl rfl ?_
    exact wp_ireturn dX11_judge_64 rfl ⟨_, rfl, h⟩
  · replace h := h.2 q
    refine wp_aload_n (i := 0) dX11_judge_28 rfl rfl ?_
    refine wp_getR (t := 7) dX11_judge_29 lf_X11_28 hR_0 rfl ?_
    refine wp_bipush (v := nI 24) dX11_judge_32 (by decide) ?_
    refine wp_iload_n (i := 1) dX11_judge_34 rfl rfl ?_
    refine wp_imul dX11_judge_35 ?_
    refine wp_iload_n (i := 3) dX11_judge_36 rfl rfl ?_
    refine wp_iadd dX11_judge_37 ?_
    refine wp_iald dX11_judge_38 hR_7 ⟨h.1, ?_⟩
    replace h := h.2
    refine wp_aload_n (i := 0) dX11_judge_39 rfl rfl ?_
    refine wp_aload_n (i := 0) dX11_judge_40 rfl rfl ?_
    refine wp_getR (t := 1) dX11_judge_41 lf_X11_9 hR_0 rfl ?_
    refine wp_iconst (v := nI 0) dX11_judge_44 rfl ?_
    refine wp_iald dX11_judge_45 hR_1 ⟨h.1, ?_⟩
    replace h := h.2
    refine wp_iload_n (i := 3) dX11_judge_46 rfl rfl ?_
    refine wp_iadd dX11_judge_47 ?_
    refine wp_bipush (v := nI 28) dX11_judge_48 (by decide) ?_
    refine wp_irem dX11_judge_50 ⟨by decide, ?_⟩
    refine wp_callVI (vs := [.int (((σ 1 (nI 0).toNatClampNeg) + x3) - ((σ 1 (nI 0).toNatClampNeg) + x3) / (nI 28) * (nI 28))]) (rest := [.int (σ 7 (((nI 24) * x1) + x3).toNatClampNeg)]) dX11_judge_51 mV_X11_manyUp lm_X11_189 hR_0 rfl rfl rfl (Nat.le_of_ble_eq_true rfl) (CallI.mono h (fun y2 σ1 h => ?_))
    refine wp_icmpne (tgt := 63) dX11_judge_54 (by decide) ⟨fun q => ?_, fun q => ?_⟩
    · replace h := h.1 q
      refine wp_iload_n (i := 3) dX11_judge_63 rfl rfl ?_
      exact wp_ireturn dX11_judge_64 rfl ⟨_, rfl, h⟩
    · replace h := h.2 q
      refine wp_iinc (i := 3) (v := x3 + nI 1) (Lo' := [some (.ref 0), some (.int x1), none, some (.int (x3 + nI 1))]) dX11_judge_57 rfl (by rfl) (by decide) rfl rfl ?_
      refine wp_goto (tgt := 18) dX11_judge_60 (by decide) ?_
      exact wp_mask [true, true, false, true] h
set_option maxRecDepth 20000 in
set_option maxHeartbeats 2000000 in
theorem vc_Md_judge {E : KE} {d : Nat} {x1 : Int32} {σ : Sg} {K : Int32 → Sg → Prop} (h : CallI E shR d mX11_notThere [.ref 0, .int x1] σ (fun y2 σ1 => (y2 = 0 → WP E shR mX11_judge (d + 1) 18 [some (.ref 0), some (.int x1), none, some (.int (nI 0))] [] σ1 (k_qi K)) ∧ (¬ y2 = 0 → CallI E shR d mX11_error [.ref 0, .int y2] σ1 (fun y4 σ3 => K y4 σ3)))) : CallI E shR (d + 1) mX11_judge [.ref 0, .int x1] σ K := by
  refine wp_enter (Lo := [some (.ref 0), some (.int x1), none, none]) mp_X11_judge (Nat.le_of_ble_eq_true rfl) rfl ?_
  refine wp_aload_n (i := 0) dX11_judge_0 rfl rfl ?_
  refine wp_iload_n (i := 1) dX11_judge_1 rfl rfl ?_
  refine wp_callVI (vs := [.int x1]) (rest := []) dX11_judge_2 mV_X11_notThere lm_X11_232 hR_0 rfl rfl rfl (Nat.le_of_ble_eq_true rfl) (CallI.mono h (fun y2 σ1 h => ?_))
  refine wp_istore_n (i := 2) (Lo' := [some (.ref 0), some (.int x1), some (.int y2), none]) dX11_judge_5 rfl (by decide) rfl rfl ?_
  refine wp_iload_n (i := 2) dX11_judge_6 rfl rfl ?_
  refine wp_ifeq (tgt := 16) dX11_judge_7 (by decide) ⟨fun q => ?_, fun q => ?_⟩
  · replace h := h.1 q
    refine wp_iconst (v := nI 0) dX11_judge_16 rfl ?_
    refine wp_istore_n (i := 3) (Lo' := [some (.ref 0), some (.int x1), some (.int y2), some (.int (nI 0))]) dX11_judge_17 rfl (by decide) rfl rfl ?_
    exact wp_mask [true, true, false, true] h
  · replace h := h.2 q
    refine wp_aload_n (i := 0) dX11_judge_10 rfl rfl ?_
    refine wp_iload_n (i := 2) dX11_judge_11 rfl rfl ?_
    refine wp_callVI (vs := [.int y2]) (rest := []) dX11_judge_12 mV_X11_error lm_X11_86 hR_0 rfl rfl rfl (Nat.le_of_ble_eq_true rfl) (CallI.mono h (fun y4 σ3 h => ?_))
    exact wp_ireturn dX11_judge_15 rfl ⟨_, rfl, h⟩
set_option maxRecDepth 20000 in
set_option maxHeartbeats 2000000 in
theorem vb_Md_copyAll_1_2_2 {E : KE} {d : Nat} {x2 : Int32} {σ : Sg} {K : Sg → Prop} (h : ((nI 552) ≤ x2 → K σ) ∧ (¬ (nI 552) ≤ x2 → vp_in x2 552 ∧ (vp_in x2 552 ∧ (∀ σ1, σ1 = k_put σ 2 (upd (σ 2) x2.toNatClampNeg (σ 1 x2.toNatClampNeg)) → WP E shR mX11_copyAll d 2 [some (.ref 1), some (.ref 2), some (.int (x2 + nI 1))] [] σ1 (k_qn K))))) : WP E shR mX11_copyAll d 2 [some (.ref 1), some (.ref 2), some (.int x2)] [] σ (k_qn K) := by
  refine wp_iload_n (i := 2) dX11_copyAll_2 rfl rfl ?_
  refine wp_sipush (v := nI 552) dX11_copyAll_3 (by decide) ?_
  refine wp_icmpge (tgt := 21) dX11_copyAll_6 (by decide) ⟨fun q => ?_, fun q => ?_⟩
  · replace h := h.1 q
    exact wp_return dX11_copyAll_21 rfl ⟨rfl, h⟩
  · replace h := h.2 q
    refine wp_aload_n (i := 1) dX11_copyAll_9 rfl rfl ?_
    refine wp_iload_n (i := 2) dX11_copyAll_10 rfl rfl ?_
    refine wp_aload_n (i := 0) dX11_copyAll_11 rfl rfl ?_
    refine wp_iload_n (i := 2) dX11_copyAll_12 rfl rfl ?_
    refine wp_iald dX11_copyAll_13 hR_1 ⟨h.1, ?_⟩
    replace h := h.2
    refine wp_iast dX11_copyAll_14 hR_2 ⟨h.1, ?_⟩
    refine wp_nm (fun σ1 e2 => ?_)
    replace h := h.2 σ1 e2
    refine wp_iinc (i := 2) (v := x2 + nI 1) (Lo' := [some (.ref 1), some (.ref 2), some (.int (x2 + nI 1))]) dX11_copyAll_15 rfl (by rfl) (by decide) rfl rfl ?_
    refine wp_goto (tgt := 2) dX11_copyAll_18 (by decide) ?_
    exact wp_mask [true, true, true] h
set_option maxRecDepth 20000 in
set_option maxHeartbeats 2000000 in
theorem vc_Md_copyAll_1_2 {E : KE} {d : Nat} {σ : Sg} {K : Sg → Prop} (h : WP E shR mX11_copyAll d 2 [some (.ref 1), some (.ref 2), some (.int (nI 0))] [] σ (k_qn K)) : CallN E shR d mX11_copyAll [.ref 1, .ref 2] σ K := by
  refine wp_enter (Lo := [some (.ref 1), some (.ref 2), none]) mp_X11_copyAll (Nat.le_of_ble_eq_true rfl) rfl ?_
  refine wp_iconst (v := nI 0) dX11_copyAll_0 rfl ?_
  refine wp_istore_n (i := 2) (Lo' := [some (.ref 1), some (.ref 2), some (.int (nI 0))]) dX11_copyAll_1 rfl (by decide) rfl rfl ?_
  exact wp_mask [true, true, true] h
set_option maxRecDepth 20000 in
set_option maxHeartbeats 2000000 in
theorem vc_Md_image {E : KE} {d : Nat} {σ : Sg} {K : Int32 → Sg → Prop} (h : CallN E shR d mX11_copyAll [.ref 1, .ref 2] σ (fun σ1 => ∀ σ2, σ2 = k_put σ1 0 (upd (σ1 0) 3 ((σ1 0 3) + (nI 1))) → K (σ2 0 3) σ2)) : CallI E shR (d + 1) mX11_image [.ref 0] σ K := by
  refine wp_enter (Lo := [some (.ref 0)]) mp_X11_image (Nat.le_of_ble_eq_true rfl) rfl ?_
  refine wp_aload_n (i := 0) dX11_image_0 rfl rfl ?_
  refine wp_getR (t := 1) dX11_image_1 lf_X11_9 hR_0 rfl ?_
  refine wp_aload_n (i := 0) dX11_image_4 rfl rfl ?_
  refine wp_getR (t := 2) dX11_image_5 lf_X11_13 hR_0 rfl ?_
  refine wp_callSN (vs := [.ref 1, .ref 2]) (rest := []) dX11_image_8 mS_X11_copyAll lm_X11_205 rfl rfl (Nat.le_of_ble_eq_true rfl) (CallN.mono h (fun σ1 h => ?_))
  refine wp_aload_n (i := 0) dX11_image_11 rfl rfl ?_
  refine wp_dup dX11_image_12 rfl ?_
  refine wp_getI dX11_image_13 lf_X11_282 hR_0 rfl ?_
  refine wp_iconst (v := nI 1) dX11_image_16 rfl ?_
  refine wp_iadd dX11_image_17 ?_
  refine wp_put dX11_image_18 lp_X11_282 hR_0 rfl ⟨⟨rfl, rfl⟩, ?_⟩
  refine wp_nm (fun σ2 e3 => ?_)
  replace h := h σ2 e3
  refine wp_aload_n (i := 0) dX11_image_21 rfl rfl ?_
  refine wp_getI dX11_image_22 lf_X11_282 hR_0 rfl ?_
  exact wp_ireturn dX11_image_25 rfl ⟨_, rfl, h⟩
set_option maxRecDepth 20000 in
set_option maxHeartbeats 2000000 in
theorem vb_Md_copyAll_2_1_2 {E : KE} {d : Nat} {x2 : Int32} {σ : Sg} {K : Sg → Prop} (h : ((nI 552) ≤ x2 → K σ) ∧ (¬ (nI 552) ≤ x2 → vp_in x2 552 ∧ (vp_in x2 552 ∧ (∀ σ1, σ1 = k_put σ 1 (upd (σ 1) x2.toNatClampNeg (σ 2 x2.toNatClampNeg)) → WP E shR mX11_copyAll d 2 [some (.ref 2), some (.ref 1), some (.int (x2 + nI 1))] [] σ1 (k_qn K))))) : WP E shR mX11_copyAll d 2 [some (.ref 2), some (.ref 1), some (.int x2)] [] σ (k_qn K) := by
  refine wp_iload_n (i := 2) dX11_copyAll_2 rfl rfl ?_
  refine wp_sipush (v := nI 552) dX11_copyAll_3 (by decide) ?_
  refine wp_icmpge (tgt := 21) dX11_copyAll_6 (by decide) ⟨fun q => ?_, fun q => ?_⟩
  · replace h := h.1 q
    exact wp_return dX11_copyAll_21 rfl ⟨rfl, h⟩
  · replace h := h.2 q
    refine wp_aload_n (i := 1) dX11_copyAll_9 rfl rfl ?_
    refine wp_iload_n (i := 2) dX11_copyAll_10 rfl rfl ?_
    refine wp_aload_n (i := 0) dX11_copyAll_11 rfl rfl ?_
    refine wp_iload_n (i := 2) dX11_copyAll_12 rfl rfl ?_
    refine wp_iald dX11_copyAll_13 hR_2 ⟨h.1, ?_⟩
    replace h := h.2
    refine wp_iast dX11_copyAll_14 hR_1 ⟨h.1, ?_⟩
    refine wp_nm (fun σ1 e2 => ?_)
    replace h := h.2 σ1 e2
    refine wp_iinc (i := 2) (v := x2 + nI 1) (Lo' := [some (.ref 2), some (.ref 1), some (.int (x2 + nI 1))]) dX11_copyAll_15 rfl (by rfl) (by decide) rfl rfl ?_
    refine wp_goto (tgt := 2) dX11_copyAll_18 (by decide) ?_
    exact wp_mask [true, true, true] h
set_option maxRecDepth 20000 in
set_option maxHeartbeats 2000000 in
theorem vc_Md_copyAll_2_1 {E : KE} {d : Nat} {σ : Sg} {K : Sg → Prop} (h : WP E shR mX11_copyAll d 2 [some (.ref 2), some (.ref 1), some (.int (nI 0))] [] σ (k_qn K)) : CallN E shR d mX11_copyAll [.ref 2, .ref 1] σ K := by
  refine wp_enter (Lo := [some (.ref 2), some (.ref 1), none]) mp_X11_copyAll (Nat.le_of_ble_eq_true rfl) rfl ?_
  refine wp_iconst (v := nI 0) dX11_copyAll_0 rfl ?_
  refine wp_istore_n (i := 2) (Lo' := [some (.ref 2), some (.ref 1), some (.int (nI 0))]) dX11_copyAll_1 rfl (by decide) rfl rfl ?_
  exact wp_mask [true, true, true] h
set_option maxRecDepth 20000 in
set_option maxHeartbeats 2000000 in
theorem vc_Md_restore {E : KE} {d : Nat} {σ : Sg} {K : Int32 → Sg → Prop} (h : (¬ (σ 0 3) = 0 → CallN E shR d mX11_copyAll [.ref 2, .ref 1] σ (fun σ1 => vp_in (nI 0) 552 ∧ (K (σ1 1 (nI 0).toNatClampNeg) σ1))) ∧ ((σ 0 3) = 0 → CallI E shR d mX11_error [.ref 0, .int (-1000000002 : Int32)] σ (fun y3 σ2 => K y3 σ2))) : CallI E shR (d + 1) mX11_restore [.ref 0] σ K := by
  refine wp_enter (Lo := [some (.ref 0)]) mp_X11_restore (Nat.le_of_ble_eq_true rfl) rfl ?_
  refine wp_aload_n (i := 0) dX11_restore_0 rfl rfl ?_
  refine wp_getI dX11_restore_1 lf_X11_282 hR_0 rfl ?_
  refine wp_ifne (tgt := 14) dX11_restore_4 (by decide) ⟨fun q => ?_, fun q => ?_⟩
  · replace h := h.1 q
    refine wp_aload_n (i := 0) dX11_restore_14 rfl rfl ?_
    refine wp_getR (t := 2) dX11_restore_15 lf_X11_13 hR_0 rfl ?_
    refine wp_aload_n (i := 0) dX11_restore_18 rfl rfl ?_
    refine wp_getR (t := 1) dX11_restore_19 lf_X11_9 hR_0 rfl ?_
    refine wp_callSN (vs := [.ref 2, .ref 1]) (rest := []) dX11_restore_22 mS_X11_copyAll lm_X11_205 rfl rfl (Nat.le_of_ble_eq_true rfl) (CallN.mono h (fun σ1 h => ?_))
    refine wp_aload_n (i := 0) dX11_restore_25 rfl rfl ?_
    refine wp_getR (t := 1) dX11_restore_26 lf_X11_9 hR_0 rfl ?_
    refine wp_iconst (v := nI 0) dX11_restore_29 rfl ?_
    refine wp_iald dX11_restore_30 hR_1 ⟨h.1, ?_⟩
    replace h := h.2
    exact wp_ireturn dX11_restore_31 rfl ⟨_, rfl, h⟩
  · replace h := h.2 q
    refine wp_aload_n (i := 0) dX11_restore_7 rfl rfl ?_
    refine wp_ldc lc_X11_209 dX11_restore_8 ?_
    refine wp_callVI (vs := [.int (-1000000002 : Int32)]) (rest := []) dX11_restore_10 mV_X11_error lm_X11_86 hR_0 rfl rfl rfl (Nat.le_of_ble_eq_true rfl) (CallI.mono h (fun y3 σ2 h => ?_))
    exact wp_ireturn dX11_restore_13 rfl ⟨_, rfl, h⟩
set_option maxRecDepth 20000 in
set_option maxHeartbeats 2000000 in
theorem vc_Md_tell {E : KE} {d : Nat} {x1 : Int32} {σ : Sg} {K : Int32 → Sg → Prop} (h : vp_in (nI 9) 552 ∧ ((¬ (σ 1 (nI 9).toNatClampNeg) = (nI 24) → vp_in (nI 9) 552 ∧ (vp_in ((nI 286) + (σ 1 (nI 9).toNatClampNeg)) 552 ∧ (∀ σ1, σ1 = k_put σ 1 (upd (σ 1) ((nI 286) + (σ 1 (nI 9).toNatClampNeg)).toNatClampNeg x1) → vp_in (nI 9) 552 ∧ (vp_in (nI 9) 552 ∧ (∀ σ3, σ3 = k_put σ1 1 (upd (σ1 1) (nI 9).toNatClampNeg ((σ1 1 (nI 9).toNatClampNeg) + (nI 1))) → vp_in (nI 9) 552 ∧ (K (σ3 1 (nI 9).toNatClampNeg) σ3)))))) ∧ ((σ 1 (nI 9).toNatClampNeg) = (nI 24) → CallI E shR d mX11_error [.ref 0, .int (-1000000004 : Int32)] σ (fun y6 σ5 => K y6 σ5)))) : CallI E shR (d + 1) mX11_tell [.ref 0, .int x1] σ K := by
  refine wp_enter (Lo := [some (.ref 0), some (.int x1)]) mp_X11_tell (Nat.le_of_ble_eq_true rfl) rfl ?_
  refine wp_aload_n (i := 0) dX11_tell_0 rfl rfl ?_
  refine wp_getR (t := 1) dX11_tell_1 lf_X11_9 hR_0 rfl ?_
  refine wp_bipush (v := nI 9) dX11_tell_4 (by decide) ?_
  refine wp_iald dX11_tell_6 hR_1 ⟨h.1, ?_⟩
  replace h := h.2
  refine wp_bipush (v := nI 24) dX11_tell_7 (by decide) ?_
  refine wp_icmpne (tgt := 19) dX11_tell_9 (by decide) ⟨fun q => ?_, fun q => ?_⟩
  · replace h := h.1 q
    refine wp_aload_n (i := 0) dX11_tell_19 rfl rfl ?_
    refine wp_getR (t := 1) dX11_tell_20 lf_X11_9 hR_0 rfl ?_
    refine wp_sipush (v := nI 286) dX11_tell_23 (by decide) ?_
    refine wp_aload_n (i := 0) dX11_tell_26 rfl rfl ?_
    refine wp_getR (t := 1) dX11_tell_27 lf_X11_9 hR_0 rfl ?_
    refine wp_bipush (v := nI 9) dX11_tell_30 (by decide) ?_
    refine wp_iald dX11_tell_32 hR_1 ⟨h.1, ?_⟩
    replace h := h.2
    refine wp_iadd dX11_tell_33 ?_
    refine wp_iload_n (i := 1) dX11_tell_34 rfl rfl ?_
    refine wp_iast dX11_tell_35 hR_1 ⟨h.1, ?_⟩
    refine wp_nm (fun σ1 e2 => ?_)
    replace h := h.2 σ1 e2
    refine wp_aload_n (i := 0) dX11_tell_36 rfl rfl ?_
    refine wp_getR (t := 1) dX11_tell_37 lf_X11_9 hR_0 rfl ?_
    refine wp_bipush (v := nI 9) dX11_tell_40 (by decide) ?_
    refine wp_dup2 dX11_tell_42 rfl rfl ?_
    refine wp_iald dX11_tell_43 hR_1 ⟨h.1, ?_⟩
    replace h := h.2
    refine wp_iconst (v := nI 1) dX11_tell_44 rfl ?_
    refine wp_iadd dX11_tell_45 ?_
    refine wp_iast dX11_tell_46 hR_1 ⟨h.1, ?_⟩
    refine wp_nm (fun σ3 e4 => ?_)
    replace h := h.2 σ3 e4
    refine wp_aload_n (i := 0) dX11_tell_47 rfl rfl ?_
    refine wp_getR (t := 1) dX11_tell_48 lf_X11_9 hR_0 rfl ?_
    refine wp_bipush (v := nI 9) dX11_tell_51 (by decide) ?_
    refine wp_iald dX11_tell_53 hR_1 ⟨h.1, ?_⟩
    replace h := h.2
    exact wp_ireturn dX11_tell_54 rfl ⟨_, rfl, h⟩
  · replace h := h.2 q
    refine wp_aload_n (i := 0) dX11_tell_12 rfl rfl ?_
    refine wp_ldc lc_X11_90 dX11_tell_13 ?_
    refine wp_callVI (vs := [.int (-1000000004 : Int32)]) (rest := []) dX11_tell_15 mV_X11_error lm_X11_86 hR_0 rfl rfl rfl (Nat.le_of_ble_eq_true rfl) (CallI.mono h (fun y6 σ5 h => ?_))
    exact wp_ireturn dX11_tell_18 rfl ⟨_, rfl, h⟩
set_option maxRecDepth 20000 in
set_option maxHeartbeats 2000000 in
theorem vb_Md_check_18 {E : KE} {d : Nat} {x1 : Int32} {x2 : Int32} {σ : Sg} {K : Int32 → Sg → Prop} (h : (x1 ≤ x2 → K (nI 0) σ) ∧ (¬ x1 ≤ x2 → CallI E shR d mX11_isPerson [.ref 0, .int x2] σ (fun y2 σ1 => (y2 = 0 → K ((nI 1) + x2) σ1) ∧ (¬ y2 = 0 → vp_in ((nI 286) + x2) 552 ∧ (CallI E shR d mX11_of [.ref 0, .int x2, .int (nI 2)] σ1 (fun y4 σ3 => ((σ1 1 ((nI 286) + x2).toNatClampNeg) = y4 → WP E shR mX11_check (d + 1) 18 [some (.ref 0), some (.int x1), some (.int (x2 + nI 1))] [] σ3 (k_qi K)) ∧ (¬ (σ1 1 ((nI 286) + x2).toNatClampNeg) = y4 → K ((nI 1) + x2) σ3))))))) : WP E shR mX11_check (d + 1) 18 [some (.ref 0), some (.int x1), some (.int x2)] [] σ (k_qi K) := by
  refine wp_iload_n (i := 2) dX11_check_18 rfl rfl ?_
  refine wp_iload_n (i := 1) dX11_check_19 rfl rfl ?_
  refine wp_icmpge (tgt := 60) dX11_check_20 (by decide) ⟨fun q => ?_, fun q => ?_⟩
  · replace h := h.1 q
    refine wp_iconst (v := nI 0) dX11_check_60 rfl ?_
    exact wp_ireturn dX11_check_61 rfl ⟨_, rfl, h⟩
  · replace h := h.2 q
    refine wp_aload_n (i := 0) dX11_check_23 rfl rfl ?_
    refine wp_iload_n (i := 2) dX11_check_24 rfl rfl ?_
    refine wp_callVI (vs := [.int x2]) (rest := []) dX11_check_25 mV_X11_isPerson lm_X11_57 hR_0 rfl rfl rfl (Nat.le_of_ble_eq_true rfl) (CallI.mono h (fun y2 σ1 h => ?_))
    refine wp_ifeq (tgt := 50) dX11_check_28 (by decide) ⟨fun q => ?_, fun q => ?_⟩
    · replace h := h.1 q
      refine wp_iconst (v := nI 1) dX11_check_50 rfl ?_
      refine wp_iload_n (i := 2) dX11_check_51 rfl rfl ?_
      refine wp_iadd dX11_check_52 ?_
      exact wp_ireturn dX11_check_53 rfl ⟨_, rfl, h⟩
    · replace h := h.2 q
      refine wp_aload_n (i := 0) dX11_check_31 rfl rfl ?_
      refine wp_getR (t := 1) dX11_check_32 lf_X11_9 hR_0 rfl ?_
      refine wp_sipush (v := nI 286) dX11_check_35 (by decide) ?_
      refine wp_iload_n (i := 2) dX11_check_38 rfl rfl ?_
      refine wp_iadd dX11_check_39 ?_
      refine wp_iald dX11_check_40 hR_1 ⟨h.1, ?_⟩
      replace h := h.2
      refine wp_aload_n (i := 0) dX11_check_41 rfl rfl ?_
      refine wp_iload_n (i := 2) dX11_check_42 rfl rfl ?_
      refine wp_iconst (v := nI 2) dX11_check_43 rfl ?_
      refine wp_callVI (vs := [.int x2, .int (nI 2)]) (rest := [.int (σ1 1 ((nI 286) + x2).toNatClampNeg)]) dX11_check_44 mV_X11_of lm_X11_65 hR_0 rfl rfl rfl (Nat.le_of_ble_eq_true rfl) (CallI.mono h (fun y4 σ3 h => ?_))
      refine wp_icmpeq (tgt := 54) dX11_check_47 (by decide) ⟨fun q => ?_, fun q => ?_⟩
      · replace h := h.1 q
        refine wp_iinc (i := 2) (v := x2 + nI 1) (Lo' := [some (.ref 0), some (.int x1), some (.int (x2 + nI 1))]) dX11_check_54 rfl (by rfl) (by decide) rfl rfl ?_
        refine wp_goto (tgt := 18) dX11_check_57 (by decide) ?_
        exact wp_mask [true, true, true] h
      · replace h := h.2 q
        refine wp_iconst (v := nI 1) dX11_check_50 rfl ?_
        refine wp_iload_n (i := 2) dX11_check_51 rfl rfl ?_
        refine wp_iadd dX11_check_52 ?_
        exact wp_ireturn dX11_check_53 rfl ⟨_, rfl, h⟩
set_option maxRecDepth 20000 in
set_option maxHeartbeats 2000000 in
theorem vc_Md_check {E : KE} {d : Nat} {σ : Sg} {K : Int32 → Sg → Prop} (h : vp_in (nI 9) 552 ∧ (vp_in (nI 9) 552 ∧ (∀ σ1, σ1 = k_put σ 1 (upd (σ 1) (nI 9).toNatClampNeg (nI 0)) → WP E shR mX11_check (d + 1) 18 [some (.ref 0), some (.int (σ 1 (nI 9).toNatClampNeg)), some (.int (nI 0))] [] σ1 (k_qi K)))) : CallI E shR (d + 1) mX11_check [.ref 0] σ K := by
  refine wp_enter (Lo := [some (.ref 0), none, none]) mp_X11_check (Nat.le_of_ble_eq_true rfl) rfl ?_
  refine wp_aload_n (i := 0) dX11_check_0 rfl rfl ?_
  refine wp_getR (t := 1) dX11_check_1 lf_X11_9 hR_0 rfl ?_
  refine wp_bipush (v := nI 9) dX11_check_4 (by decide) ?_
  refine wp_iald dX11_check_6 hR_1 ⟨h.1, ?_⟩
  replace h := h.2
  refine wp_istore_n (i := 1) (Lo' := [some (.ref 0), some (.int (σ 1 (nI 9).toNatClampNeg)), none]) dX11_check_7 rfl (by decide) rfl rfl ?_
  refine wp_aload_n (i := 0) dX11_check_8 rfl rfl ?_
  refine wp_getR (t := 1) dX11_check_9 lf_X11_9 hR_0 rfl ?_
  refine wp_bipush (v := nI 9) dX11_check_12 (by decide) ?_
  refine wp_iconst (v := nI 0) dX11_check_14 rfl ?_
  refine wp_iast dX11_check_15 hR_1 ⟨h.1, ?_⟩
  refine wp_nm (fun σ1 e2 => ?_)
  replace h := h.2 σ1 e2
  refine wp_iconst (v := nI 0) dX11_check_16 rfl ?_
  refine wp_istore_n (i := 2) (Lo' := [some (.ref 0), some (.int (σ 1 (nI 9).toNatClampNeg)), some (.int (nI 0))]) dX11_check_17 rfl (by decide) rfl rfl ?_
  exact wp_mask [true, true, true] h
set_option maxRecDepth 20000 in
set_option maxHeartbeats 2000000 in
theorem vc_Md_count {E : KE} {d : Nat} {x1 : Int32} {σ : Sg} {K : Int32 → Sg → Prop} (h : (x1 = nI 0 → vp_in (nI 2) 552 ∧ (K (σ 1 (nI 2).toNatClampNeg) σ)) ∧ (x1 = nI 1 → vp_in (nI 3) 552 ∧ (K (σ 1 (nI 3).toNatClampNeg) σ)) ∧ (x1 = nI 2 → vp_in (nI 0) 552 ∧ (K (σ 1 (nI 0).toNatClampNeg) σ)) ∧ (x1 = nI 3 → vp_in (nI 4) 552 ∧ (K (σ 1 (nI 4).toNatClampNeg) σ)) ∧ (x1 = nI 4 → vp_in (nI 5) 552 ∧ (K (σ 1 (nI 5).toNatClampNeg) σ)) ∧ (x1 = nI 5 → vp_in (nI 6) 552 ∧ (K (σ 1 (nI 6).toNatClampNeg) σ)) ∧ (x1 = nI 6 → vp_in (nI 7) 552 ∧ (K (σ 1 (nI 7).toNatClampNeg) σ)) ∧ (x1 = nI 7 → CallI E shR d mX11_notKept [.ref 0] σ (fun y4 σ3 => K y4 σ3)) ∧ (x1 = nI 8 → vp_in (nI 8) 552 ∧ (K (σ 1 (nI 8).toNatClampNeg) σ)) ∧ (x1 = nI 9 → vp_in (nI 9) 552 ∧ (K (σ 1 (nI 9).toNatClampNeg) σ)) ∧ (x1 = nI 10 → K (σ 0 22) σ) ∧ (x1 = nI 11 → vp_in (nI 1) 552 ∧ (K (σ 1 (nI 1).toNatClampNeg) σ)) ∧ (¬ x1 = nI 0 → ¬ x1 = nI 1 → ¬ x1 = nI 2 → ¬ x1 = nI 3 → ¬ x1 = nI 4 → ¬ x1 = nI 5 → ¬ x1 = nI 6 → ¬ x1 = nI 7 → ¬ x1 = nI 8 → ¬ x1 = nI 9 → ¬ x1 = nI 10 → ¬ x1 = nI 11 → CallI E shR d mX11_error [.ref 0, .int (-1000000001 : Int32)] σ (fun y2 σ1 => K y2 σ1))) : CallI E shR (d + 1) mX11_count [.ref 0, .int x1] σ K := by
  refine wp_enter (Lo := [some (.ref 0), some (.int x1)]) mp_X11_count (Nat.le_of_ble_eq_true rfl) rfl ?_
  refine wp_iload_n (i := 1) dX11_count_0 rfl rfl ?_
  rcases Classical.em (x1 = nI 0) with q0 | q0
  · replace h := h.1 q0
    refine wp_tswIn (off := 63) (tgt := 64) dX11_count_1 (by rw [q0]; decide) (by rw [q0]; decide) (by rw [q0]; rfl) (by decide) ?_
    refine wp_aload_n (i := 0) dX11_count_64 rfl rfl ?_
    refine wp_getR (t := 1) dX11_count_65 lf_X11_9 hR_0 rfl ?_
    refine wp_iconst (v := nI 2) dX11_count_68 rfl ?_
    refine wp_iald dX11_count_69 hR_1 ⟨h.1, ?_⟩
    replace h := h.2
    exact wp_ireturn dX11_count_70 rfl ⟨_, rfl, h⟩
  rcases Classical.em (x1 = nI 1) with q1 | q1
  · replace h := h.2.1 q1
    refine wp_tswIn (off := 70) (tgt := 71) dX11_count_1 (by rw [q1]; decide) (by rw [q1]; decide) (by rw [q1]; rfl) (by decide) ?_
    refine wp_aload_n (i := 0) dX11_count_71 rfl rfl ?_
    refine wp_getR (t := 1) dX11_count_72 lf_X11_9 hR_0 rfl ?_
    refine wp_iconst (v := nI 3) dX11_count_75 rfl ?_
    refine wp_iald dX11_count_76 hR_1 ⟨h.1, ?_⟩
    replace h := h.2
    exact wp_ireturn dX11_count_77 rfl ⟨_, rfl, h⟩
  rcases Classical.em (x1 = nI 2) with q2 | q2
  · replace h := h.2.2.1 q2
    refine wp_tswIn (off := 77) (tgt := 78) dX11_count_1 (by rw [q2]; decide) (by rw [q2]; decide) (by rw [q2]; rfl) (by decide) ?_
    refine wp_aload_n (i := 0) dX11_count_78 rfl rfl ?_
    refine wp_getR (t := 1) dX11_count_79 lf_X11_9 hR_0 rfl ?_
    refine wp_iconst (v := nI 0) dX11_count_82 rfl ?_
    refine wp_iald dX11_count_83 hR_1 ⟨h.1, ?_⟩
    replace h := h.2
    exact wp_ireturn dX11_count_84 rfl ⟨_, rfl, h⟩
  rcases Classical.em (x1 = nI 3) with q3 | q3
  · replace h := h.2.2.2.1 q3
    refine wp_tswIn (off := 84) (tgt := 85) dX11_count_1 (by rw [q3]; decide) (by rw [q3]; decide) (by rw [q3]; rfl) (by decide) ?_
    refine wp_aload_n (i := 0) dX11_count_85 rfl rfl ?_
    refine wp_getR (t := 1) dX11_count_86 lf_X11_9 hR_0 rfl ?_
    refine wp_iconst (v := nI 4) dX11_count_89 rfl ?_
    refine wp_iald dX11_count_90 hR_1 ⟨h.1, ?_⟩
    replace h := h.2
    exact wp_ireturn dX11_count_91 rfl ⟨_, rfl, h⟩
  rcases Classical.em (x1 = nI 4) with q4 | q4
  · replace h := h.2.2.2.2.1 q4
    refine wp_tswIn (off := 91) (tgt := 92) dX11_count_1 (by rw [q4]; decide) (by rw [q4]; decide) (by rw [q4]; rfl) (by decide) ?_
    refine wp_aload_n (i := 0) dX11_count_92 rfl rfl ?_
    refine wp_getR (t := 1) dX11_count_93 lf_X11_9 hR_0 rfl ?_
    refine wp_iconst (v := nI 5) dX11_count_96 rfl ?_
    refine wp_iald dX11_count_97 hR_1 ⟨h.1, ?_⟩
    replace h := h.2
    exact wp_ireturn dX11_count_98 rfl ⟨_, rfl, h⟩
  rcases Classical.em (x1 = nI 5) with q5 | q5
  · replace h := h.2.2.2.2.2.1 q5
    refine wp_tswIn (off := 98) (tgt := 99) dX11_count_1 (by rw [q5]; decide) (by rw [q5]; decide) (by rw [q5]; rfl) (by decide) ?_
    refine wp_aload_n (i := 0) dX11_count_99 rfl rfl ?_
    refine wp_getR (t := 1) dX11_count_100 lf_X11_9 hR_0 rfl ?_
    refine wp_bipush (v := nI 6) dX11_count_103 (by decide) ?_
    refine wp_iald dX11_count_105 hR_1 ⟨h.1, ?_⟩
    replace h := h.2
    exact wp_ireturn dX11_count_106 rfl ⟨_, rfl, h⟩
  rcases Classical.em (x1 = nI 6) with q6 | q6
  · replace h := h.2.2.2.2.2.2.1 q6
    refine wp_tswIn (off := 106) (tgt := 107) dX11_count_1 (by rw [q6]; decide) (by rw [q6]; decide) (by rw [q6]; rfl) (by decide) ?_
    refine wp_aload_n (i := 0) dX11_count_107 rfl rfl ?_
    refine wp_getR (t := 1) dX11_count_108 lf_X11_9 hR_0 rfl ?_
    refine wp_bipush (v := nI 7) dX11_count_111 (by decide) ?_
    refine wp_iald dX11_count_113 hR_1 ⟨h.1, ?_⟩
    replace h := h.2
    exact wp_ireturn dX11_count_114 rfl ⟨_, rfl, h⟩
  rcases Classical.em (x1 = nI 7) with q7 | q7
  · replace h := h.2.2.2.2.2.2.2.1 q7
    refine wp_tswIn (off := 114) (tgt := 115) dX11_count_1 (by rw [q7]; decide) (by rw [q7]; decide) (by rw [q7]; rfl) (by decide) ?_
    refine wp_aload_n (i := 0) dX11_count_115 rfl rfl ?_
    refine wp_callVI (vs := []) (rest := []) dX11_count_116 mV_X11_notKept lm_X11_219 hR_0 rfl rfl rfl (Nat.le_of_ble_eq_true rfl) (CallI.mono h (fun y4 σ3 h => ?_))
    exact wp_ireturn dX11_count_119 rfl ⟨_, rfl, h⟩
  rcases Classical.em (x1 = nI 8) with q8 | q8
  · replace h := h.2.2.2.2.2.2.2.2.1 q8
    refine wp_tswIn (off := 119) (tgt := 120) dX11_count_1 (by rw [q8]; decide) (by rw [q8]; decide) (by rw [q8]; rfl) (by decide) ?_
    refine wp_aload_n (i := 0) dX11_count_120 rfl rfl ?_
    refine wp_getR (t := 1) dX11_count_121 lf_X11_9 hR_0 rfl ?_
    refine wp_bipush (v := nI 8) dX11_count_124 (by decide) ?_
    refine wp_iald dX11_count_126 hR_1 ⟨h.1, ?_⟩
    replace h := h.2
    exact wp_ireturn dX11_count_127 rfl ⟨_, rfl, h⟩
  rcases Classical.em (x1 = nI 9) with q9 | q9
  · replace h := h.2.2.2.2.2.2.2.2.2.1 q9
    refine wp_tswIn (off := 127) (tgt := 128) dX11_count_1 (by rw [q9]; decide) (by rw [q9]; decide) (by rw [q9]; rfl) (by decide) ?_
    refine wp_aload_n (i := 0) dX11_count_128 rfl rfl ?_
    refine wp_getR (t := 1) dX11_count_129 lf_X11_9 hR_0 rfl ?_
    refine wp_bipush (v := nI 9) dX11_count_132 (by decide) ?_
    refine wp_iald dX11_count_134 hR_1 ⟨h.1, ?_⟩
    replace h := h.2
    exact wp_ireturn dX11_count_135 rfl ⟨_, rfl, h⟩
  rcases Classical.em (x1 = nI 10) with q10 | q10
  · replace h := h.2.2.2.2.2.2.2.2.2.2.1 q10
    refine wp_tswIn (off := 135) (tgt := 136) dX11_count_1 (by rw [q10]; decide) (by rw [q10]; decide) (by rw [q10]; rfl) (by decide) ?_
    refine wp_aload_n (i := 0) dX11_count_136 rfl rfl ?_
    refine wp_getI dX11_count_137 lf_X11_235 hR_0 rfl ?_
    exact wp_ireturn dX11_count_140 rfl ⟨_, rfl, h⟩
  rcases Classical.em (x1 = nI 11) with q11 | q11
  · replace h := h.2.2.2.2.2.2.2.2.2.2.2.1 q11
    refine wp_tswIn (off := 140) (tgt := 141) dX11_count_1 (by rw [q11]; decide) (by rw [q11]; decide) (by rw [q11]; rfl) (by decide) ?_
    refine wp_aload_n (i := 0) dX11_count_141 rfl rfl ?_
    refine wp_getR (t := 1) dX11_count_142 lf_X11_9 hR_0 rfl ?_
    refine wp_iconst (v := nI 1) dX11_count_145 rfl ?_
    refine wp_iald dX11_count_146 hR_1 ⟨h.1, ?_⟩
    replace h := h.2
    exact wp_ireturn dX11_count_147 rfl ⟨_, rfl, h⟩
  have nq0 := lv_neT q0 (show ((nI 0) : Int32).toInt = 0 by decide)
  have nq1 := lv_neT q1 (show ((nI 1) : Int32).toInt = 1 by decide)
  have nq2 := lv_neT q2 (show ((nI 2) : Int32).toInt = 2 by decide)
  have nq3 := lv_neT q3 (show ((nI 3) : Int32).toInt = 3 by decide)
  have nq4 := lv_neT q4 (show ((nI 4) : Int32).toInt = 4 by decide)
  have nq5 := lv_neT q5 (show ((nI 5) : Int32).toInt = 5 by decide)
  have nq6 := lv_neT q6 (show ((nI 6) : Int32).toInt = 6 by decide)
  have nq7 := lv_neT q7 (show ((nI 7) : Int32).toInt = 7 by decide)
  have nq8 := lv_neT q8 (show ((nI 8) : Int32).toInt = 8 by decide)
  have nq9 := lv_neT q9 (show ((nI 9) : Int32).toInt = 9 by decide)
  have nq10 := lv_neT q10 (show ((nI 10) : Int32).toInt = 10 by decide)
  have nq11 := lv_neT q11 (show ((nI 11) : Int32).toInt = 11 by decide)
  replace h := h.2.2.2.2.2.2.2.2.2.2.2.2 q0 q1 q2 q3 q4 q5 q6 q7 q8 q9 q10 q11
  refine wp_tswOut (tgt := 148) dX11_count_1 (by omega) (by decide) ?_
  refine wp_aload_n (i := 0) dX11_count_148 rfl rfl ?_
  refine wp_ldc lc_X11_85 dX11_count_149 ?_
  refine wp_callVI (vs := [.int (-1000000001 : Int32)]) (rest := []) dX11_count_151 mV_X11_error lm_X11_86 hR_0 rfl rfl rfl (Nat.le_of_ble_eq_true rfl) (CallI.mono h (fun y2 σ1 h => ?_))
  exact wp_ireturn dX11_count_154 rfl ⟨_, rfl, h⟩
set_option maxRecDepth 20000 in
set_option maxHeartbeats 2000000 in
theorem vc_Md_told {E : KE} {d : Nat} {x1 : Int32} {σ : Sg} {K : Int32 → Sg → Prop} (h : CallI E shR d mX11_in [.int x1, .int (nI 1), .int (nI 6)] σ (fun y2 σ1 => (y2 = 0 → CallI E shR d mX11_error [.ref 0, .int (-1000000001 : Int32)] σ1 (fun y4 σ3 => K y4 σ3)) ∧ (¬ y2 = 0 → vp_in x1 7 ∧ (K (σ1 4 x1.toNatClampNeg) σ1)))) : CallI E shR (d + 1) mX11_told [.ref 0, .int x1] σ K := by
  refine wp_enter (Lo := [some (.ref 0), some (.int x1)]) mp_X11_told (Nat.le_of_ble_eq_true rfl) rfl ?_
  refine wp_iload_n (i := 1) dX11_told_0 rfl rfl ?_
  refine wp_iconst (v := nI 1) dX11_told_1 rfl ?_
  refine wp_bipush (v := nI 6) dX11_told_2 (by decide) ?_
  refine wp_callSI (vs := [.int x1, .int (nI 1), .int (nI 6)]) (rest := []) dX11_told_4 mS_X11_in lm_X11_53 rfl rfl (Nat.le_of_ble_eq_true rfl) (CallI.mono h (fun y2 σ1 h => ?_))
  refine wp_ifeq (tgt := 19) dX11_told_7 (by decide) ⟨fun q => ?_, fun q => ?_⟩
  · replace h := h.1 q
    refine wp_aload_n (i := 0) dX11_told_19 rfl rfl ?_
    refine wp_ldc lc_X11_85 dX11_told_20 ?_
    refine wp_callVI (vs := [.int (-1000000001 : Int32)]) (rest := []) dX11_told_22 mV_X11_error lm_X11_86 hR_0 rfl rfl rfl (Nat.le_of_ble_eq_true rfl) (CallI.mono h (fun y4 σ3 h => ?_))
    exact wp_ireturn dX11_told_25 rfl ⟨_, rfl, h⟩
  · replace h := h.2 q
    refine wp_aload_n (i := 0) dX11_told_10 rfl rfl ?_
    refine wp_getR (t := 4) dX11_told_11 lf_X11_19 hR_0 rfl ?_
    refine wp_iload_n (i := 1) dX11_told_14 rfl rfl ?_
    refine wp_iald dX11_told_15 hR_4 ⟨h.1, ?_⟩
    replace h := h.2
    refine wp_goto (tgt := 25) dX11_told_16 (by decide) ?_
    exact wp_ireturn dX11_told_25 rfl ⟨_, rfl, h⟩

theorem ct_X9 {l : Launch} {G : va_G} {cI : ClassId} {d : Nat} : CtorOk l G cI (d + 2) mX9_init [] 22 562 8 [.null, .null, .null, .null, .null, .null, .int 0, .int 0, .int 0, .int 0, .int 0, .int 0] [.inr (8, [some 1, some 7, some 11, some 15, some 19, some 21, none, none, none, none, none, none]), .inr (0, [some 2, some 3, some 4, some 5, some 6, none]), .inl 6, .inl 6, .inl 6, .inl 6, .inl 168, .inr (1, [some 8, some 9, some 10, none]), .inl 8, .inl 8, .inl 8, .inr (5, [some 12, some 14]), .inr (3, [some 13, none]), .inl 60, .inl 60, .inr (5, [some 16, some 18]), .inr (3, [some 17, none]), .inl 60, .inl 60, .inr (3, [some 20, none]), .inl 60, .inr (3, [some 22, none]), .inl 24] zW := by
  intro h0 sz
  refine wc_enter (by decide +kernel) (Nat.le_of_ble_eq_true rfl) rfl ?_
  show WC l G cI (d + 2) mX9_init 22 562 h0 sz 8 [.null, .null, .null, .null, .null, .null, .int 0, .int 0, .int 0, .int 0, .int 0, .int 0] [.inr (8, [some 1, some 7, some 11, some 15, some 19, some 21, none, none, none, none, none, none]), .inr (0, [some 2, some 3, some 4, some 5, some 6, none]), .inl 6, .inl 6, .inl 6, .inl 6, .inl 168, .inr (1, [some 8, some 9, some 10, none]), .inl 8, .inl 8, .inl 8, .inr (5, [some 12, some 14]), .inr (3, [some 13, none]), .inl 60, .inl 60, .inr (5, [some 16, some 18]), .inr (3, [some 17, none]), .inl 60, .inl 60, .inr (3, [some 20, none]), .inl 60, .inr (3, [some 22, none]), .inl 24] zW 0 [(0, .ref h0)] [] [(h0, .inr (8, [.null, .null, .null, .null, .null, .null, .int 0, .int 0, .int 0, .int 0, .int 0, .int 0]))] 0 0
  refine wc_aload (k := 0) (x := h0) dX9_init_0 List.mem_cons_self ?_
  refine wc_obj dX9_init_1 (k_at 101 (by decide +kernel) rfl) ?_
  refine wc_aload (k := 0) (x := h0) dX9_init_4 List.mem_cons_self ?_
  refine wc_new dX9_init_5 kc_X1 (k_at 102 (by decide +kernel) rfl) ⟨Nat.le_of_ble_eq_true rfl, Nat.le_of_ble_eq_true rfl⟩ ?_
  intro q1
  refine wc_dup dX9_init_8 rfl ?_
  refine wc_call (vs := []) (rest := [.ref q1, .ref h0]) dX9_init_9 mK_X1 (Or.inr (List.mem_of_getElem? (i := 1) rfl)) rfl ct_X1 rfl (Nat.le_of_ble_eq_true rfl) ⟨Nat.le_of_ble_eq_true rfl, Nat.le_of_ble_eq_true rfl⟩ ?_
  rintro a1 rfl
  refine wc_putF dX9_init_12 lq_X9_12 rfl ⟨rfl, rfl⟩ (Nat.le_of_ble_eq_true rfl) ?_
  refine wc_aload (k := 0) (x := h0) dX9_init_15 List.mem_cons_self ?_
  refine wc_new dX9_init_16 kc_X2 (k_at 140 (by decide +kernel) rfl) ⟨Nat.le_of_ble_eq_true rfl, Nat.le_of_ble_eq_true rfl⟩ ?_
  intro q2
  refine wc_dup dX9_init_19 rfl ?_
  refine wc_call (vs := []) (rest := [.ref q2, .ref h0]) dX9_init_20 mK_X2 (Or.inr (List.mem_of_getElem? (i := 2) rfl)) rfl ct_X2 rfl (Nat.le_of_ble_eq_true rfl) ⟨Nat.le_of_ble_eq_true rfl, Nat.le_of_ble_eq_true rfl⟩ ?_
  rintro a2 rfl
  refine wc_putF dX9_init_23 lq_X9_21 rfl ⟨rfl, rfl⟩ (Nat.le_of_ble_eq_true rfl) ?_
  refine wc_aload (k := 0) (x := h0) dX9_init_26 List.mem_cons_self ?_
  refine wc_new dX9_init_27 kc_X6 (k_at 167 (by decide +kernel) rfl) ⟨Nat.le_of_ble_eq_true rfl, Nat.le_of_ble_eq_true rfl⟩ ?_
  intro q3
  refine wc_dup dX9_init_30 rfl ?_
  refine wc_call (vs := []) (rest := [.ref q3, .ref h0]) dX9_init_31 mK_X6 (Or.inr (List.mem_of_getElem? (i := 3) rfl)) rfl ct_X6 rfl (Nat.le_of_ble_eq_true rfl) ⟨Nat.le_of_ble_eq_true rfl, Nat.le_of_ble_eq_true rfl⟩ ?_
  rintro a3 rfl
  refine wc_putF dX9_init_34 lq_X9_28 rfl ⟨rfl, rfl⟩ (Nat.le_of_ble_eq_true rfl) ?_
  refine wc_aload (k := 0) (x := h0) dX9_init_37 List.mem_cons_self ?_
  refine wc_new dX9_init_38 kc_X6 (k_at 167 (by decide +kernel) rfl) ⟨Nat.le_of_ble_eq_true rfl, Nat.le_of_ble_eq_true rfl⟩ ?_
  intro q4
  refine wc_dup dX9_init_41 rfl ?_
  refine wc_call (vs := []) (rest := [.ref q4, .ref h0]) dX9_init_42 mK_X6 (Or.inr (List.mem_of_getElem? (i := 3) rfl)) rfl ct_X6 rfl (Nat.le_of_ble_eq_true rfl) ⟨Nat.le_of_ble_eq_true rfl, Nat.le_of_ble_eq_true rfl⟩ ?_
  rintro a4 rfl
  refine wc_putF dX9_init_45 lq_X9_32 rfl ⟨rfl, rfl⟩ (Nat.le_of_ble_eq_true rfl) ?_
  refine wc_aload (k := 0) (x := h0) dX9_init_48 List.mem_cons_self ?_
  refine wc_new dX9_init_49 kc_X4 (k_at 202 (by decide +kernel) rfl) ⟨Nat.le_of_ble_eq_true rfl, Nat.le_of_ble_eq_true rfl⟩ ?_
  intro q5
  refine wc_dup dX9_init_52 rfl ?_
  refine wc_bipush (v := nI 60) dX9_init_53 (by decide) ?_
  refine wc_call (vs := [.int (nI 60)]) (rest := [.ref q5, .ref h0]) dX9_init_55 mK_X4 (Or.inl (k_at 203 (by decide +kernel) rfl)) rfl (ct_X4 (by decide)) rfl (Nat.le_of_ble_eq_true rfl) ⟨Nat.le_of_ble_eq_true rfl, Nat.le_of_ble_eq_true rfl⟩ ?_
  rintro a5 rfl
  refine wc_putF dX9_init_58 lq_X9_40 rfl ⟨rfl, rfl⟩ (Nat.le_of_ble_eq_true rfl) ?_
  refine wc_aload (k := 0) (x := h0) dX9_init_61 List.mem_cons_self ?_
  refine wc_new dX9_init_62 kc_X4 (k_at 202 (by decide +kernel) rfl) ⟨Nat.le_of_ble_eq_true rfl, Nat.le_of_ble_eq_true rfl⟩ ?_
  intro q6
  refine wc_dup dX9_init_65 rfl ?_
  refine wc_bipush (v := nI 24) dX9_init_66 (by decide) ?_
  refine wc_call (vs := [.int (nI 24)]) (rest := [.ref q6, .ref h0]) dX9_init_68 mK_X4 (Or.inl (k_at 203 (by decide +kernel) rfl)) rfl (ct_X4 (by decide)) rfl (Nat.le_of_ble_eq_true rfl) ⟨Nat.le_of_ble_eq_true rfl, Nat.le_of_ble_eq_true rfl⟩ ?_
  rintro a6 rfl
  refine wc_putF dX9_init_71 lq_X9_44 rfl ⟨rfl, rfl⟩ (Nat.le_of_ble_eq_true rfl) ?_
  refine wc_aload (k := 0) (x := h0) dX9_init_74 List.mem_cons_self ?_
  refine wc_iconst (v := nI 0) dX9_init_75 rfl ?_
  refine wc_put dX9_init_76 lp_X9_47 rfl ⟨rfl, rfl⟩ (Nat.le_of_ble_eq_true rfl) ?_
  refine wc_aload (k := 0) (x := h0) dX9_init_79 List.mem_cons_self ?_
  refine wc_iconst (v := nI 0) dX9_init_80 rfl ?_
  refine wc_put dX9_init_81 lp_X9_51 rfl ⟨rfl, rfl⟩ (Nat.le_of_ble_eq_true rfl) ?_
  refine wc_aload (k := 0) (x := h0) dX9_init_84 List.mem_cons_self ?_
  refine wc_iconst (v := nI 0) dX9_init_85 rfl ?_
  refine wc_put dX9_init_86 lp_X9_54 rfl ⟨rfl, rfl⟩ (Nat.le_of_ble_eq_true rfl) ?_
  refine wc_aload (k := 0) (x := h0) dX9_init_89 List.mem_cons_self ?_
  refine wc_iconst (v := nI 0) dX9_init_90 rfl ?_
  refine wc_put dX9_init_91 lp_X9_57 rfl ⟨rfl, rfl⟩ (Nat.le_of_ble_eq_true rfl) ?_
  refine wc_aload (k := 0) (x := h0) dX9_init_94 List.mem_cons_self ?_
  refine wc_iconst (v := nI 0) dX9_init_95 rfl ?_
  refine wc_put dX9_init_96 lp_X9_60 rfl ⟨rfl, rfl⟩ (Nat.le_of_ble_eq_true rfl) ?_
  refine wc_aload (k := 0) (x := h0) dX9_init_99 List.mem_cons_self ?_
  refine wc_iconst (v := nI 1) dX9_init_100 rfl ?_
  refine wc_put dX9_init_101 lp_X9_63 rfl ⟨rfl, rfl⟩ (Nat.le_of_ble_eq_true rfl) ?_
  exact wc_ret dX9_init_104 rfl (fun i => if i = 0 then h0 else if i < 7 then a1 (i - 1) else if i < 11 then a2 (i - 7) else if i < 15 then a3 (i - 11) else if i < 19 then a4 (i - 15) else if i < 21 then a5 (i - 19) else a6 (i - 21)) rfl rfl ⟨Nat.le_of_ble_eq_true rfl, Nat.le_of_ble_eq_true rfl⟩
theorem ct_X10 {l : Launch} {G : va_G} {cI : ClassId} {d : Nat} : CtorOk l G cI (d + 3) mX10_init [] 63 1493 9 [.null, .null, .null, .null, .null, .null, .null, .int 0] shC zC := by
  intro h0 sz
  refine wc_enter (by decide +kernel) (Nat.le_of_ble_eq_true rfl) rfl ?_
  show WC l G cI (d + 3) mX10_init 63 1493 h0 sz 9 [.null, .null, .null, .null, .null, .null, .null, .int 0] shC zC 0 [(0, .ref h0)] [] [(h0, .inr (9, [.null, .null, .null, .null, .null, .null, .null, .int 0]))] 0 0
  refine wc_aload (k := 0) (x := h0) dX10_init_0 List.mem_cons_self ?_
  refine wc_obj dX10_init_1 (k_at 93 (by decide +kernel) rfl) ?_
  refine wc_aload (k := 0) (x := h0) dX10_init_4 List.mem_cons_self ?_
  refine wc_new dX10_init_5 kc_X9 (k_at 96 (by decide +kernel) rfl) ⟨Nat.le_of_ble_eq_true rfl, Nat.le_of_ble_eq_true rfl⟩ ?_
  intro q1
  refine wc_dup dX10_init_8 rfl ?_
  refine wc_call (vs := []) (rest := [.ref q1, .ref h0]) dX10_init_9 mK_X9 (Or.inr (List.mem_of_getElem? (i := 0) rfl)) rfl ct_X9 rfl (Nat.le_of_ble_eq_true rfl) ⟨Nat.le_of_ble_eq_true rfl, Nat.le_of_ble_eq_true rfl⟩ ?_
  rintro a1 rfl
  refine wc_putF dX10_init_12 lq_X10_10 rfl ⟨rfl, rfl⟩ (Nat.le_of_ble_eq_true rfl) ?_
  refine wc_aload (k := 0) (x := h0) dX10_init_15 List.mem_cons_self ?_
  refine wc_new dX10_init_16 kc_X9 (k_at 96 (by decide +kernel) rfl) ⟨Nat.le_of_ble_eq_true rfl, Nat.le_of_ble_eq_true rfl⟩ ?_
  intro q2
  refine wc_dup dX10_init_19 rfl ?_
  refine wc_call (vs := []) (rest := [.ref q2, .ref h0]) dX10_init_20 mK_X9 (Or.inr (List.mem_of_getElem? (i := 0) rfl)) rfl ct_X9 rfl (Nat.le_of_ble_eq_true rfl) ⟨Nat.le_of_ble_eq_true rfl, Nat.le_of_ble_eq_true rfl⟩ ?_
  rintro a2 rfl
  refine wc_putF dX10_init_23 lq_X10_16 rfl ⟨rfl, rfl⟩ (Nat.le_of_ble_eq_true rfl) ?_
  refine wc_aload (k := 0) (x := h0) dX10_init_26 List.mem_cons_self ?_
  refine wc_new dX10_init_27 kc_X3 (k_at 253 (by decide +kernel) rfl) ⟨Nat.le_of_ble_eq_true rfl, Nat.le_of_ble_eq_true rfl⟩ ?_
  intro q3
  refine wc_dup dX10_init_30 rfl ?_
  refine wc_call (vs := []) (rest := [.ref q3, .ref h0]) dX10_init_31 mK_X3 (Or.inr (List.mem_of_getElem? (i := 4) rfl)) rfl ct_X3 rfl (Nat.le_of_ble_eq_true rfl) ⟨Nat.le_of_ble_eq_true rfl, Nat.le_of_ble_eq_true rfl⟩ ?_
  rintro a3 rfl
  refine wc_putF dX10_init_34 lq_X10_22 rfl ⟨rfl, rfl⟩ (Nat.le_of_ble_eq_true rfl) ?_
  refine wc_aload (k := 0) (x := h0) dX10_init_37 List.mem_cons_self ?_
  refine wc_new dX10_init_38 kc_X7 (k_at 278 (by decide +kernel) rfl) ⟨Nat.le_of_ble_eq_true rfl, Nat.le_of_ble_eq_true rfl⟩ ?_
  intro q4
  refine wc_dup dX10_init_41 rfl ?_
  refine wc_call (vs := []) (rest := [.ref q4, .ref h0]) dX10_init_42 mK_X7 (Or.inr (List.mem_of_getElem? (i := 5) rfl)) rfl ct_X7 rfl (Nat.le_of_ble_eq_true rfl) ⟨Nat.le_of_ble_eq_true rfl, Nat.le_of_ble_eq_true rfl⟩ ?_
  rintro a4 rfl
  refine wc_putF dX10_init_45 lq_X10_29 rfl ⟨rfl, rfl⟩ (Nat.le_of_ble_eq_true rfl) ?_
  refine wc_aload (k := 0) (x := h0) dX10_init_48 List.mem_cons_self ?_
  refine wc_new dX10_init_49 kc_X8 (k_at 294 (by decide +kernel) rfl) ⟨Nat.le_of_ble_eq_true rfl, Nat.le_of_ble_eq_true rfl⟩ ?_
  intro q5
  refine wc_dup dX10_init_52 rfl ?_
  refine wc_call (vs := []) (rest := [.ref q5, .ref h0]) dX10_init_53 mK_X8 (Or.inr (List.mem_of_getElem? (i := 6) rfl)) rfl ct_X8 rfl (Nat.le_of_ble_eq_true rfl) ⟨Nat.le_of_ble_eq_true rfl, Nat.le_of_ble_eq_true rfl⟩ ?_
  rintro a5 rfl
  refine wc_putF dX10_init_56 lq_X10_36 rfl ⟨rfl, rfl⟩ (Nat.le_of_ble_eq_true rfl) ?_
  refine wc_aload (k := 0) (x := h0) dX10_init_59 List.mem_cons_self ?_
  refine wc_new dX10_init_60 kc_X5 (k_at 320 (by decide +kernel) rfl) ⟨Nat.le_of_ble_eq_true rfl, Nat.le_of_ble_eq_true rfl⟩ ?_
  intro q6
  refine wc_dup dX10_init_63 rfl ?_
  refine wc_call (vs := []) (rest := [.ref q6, .ref h0]) dX10_init_64 mK_X5 (Or.inr (List.mem_of_getElem? (i := 7) rfl)) rfl ct_X5 rfl (Nat.le_of_ble_eq_true rfl) ⟨Nat.le_of_ble_eq_true rfl, Nat.le_of_ble_eq_true rfl⟩ ?_
  rintro a6 rfl
  refine wc_putF dX10_init_67 lq_X10_43 rfl ⟨rfl, rfl⟩ (Nat.le_of_ble_eq_true rfl) ?_
  refine wc_aload (k := 0) (x := h0) dX10_init_70 List.mem_cons_self ?_
  refine wc_bipush (v := nI 7) dX10_init_71 (by decide) ?_
  refine wc_newa (n := 7) dX10_init_73 (by decide) ⟨Nat.le_of_ble_eq_true rfl, Nat.le_of_ble_eq_true rfl⟩ ?_
  intro q7
  refine wc_putF dX10_init_75 lq_X10_47 rfl ⟨rfl, rfl⟩ (Nat.le_of_ble_eq_true rfl) ?_
  refine wc_aload (k := 0) (x := h0) dX10_init_78 List.mem_cons_self ?_
  refine wc_iconst (v := nI 0) dX10_init_79 rfl ?_
  refine wc_put dX10_init_80 lp_X10_51 rfl ⟨rfl, rfl⟩ (Nat.le_of_ble_eq_true rfl) ?_
  exact wc_ret dX10_init_83 rfl (fun i => if i = 0 then h0 else if i < 24 then a1 (i - 1) else if i < 47 then a2 (i - 24) else if i < 52 then a3 (i - 47) else if i < 56 then a4 (i - 52) else if i < 59 then a5 (i - 56) else if i < 63 then a6 (i - 59) else q7) rfl rfl ⟨Nat.le_of_ble_eq_true rfl, Nat.le_of_ble_eq_true rfl⟩
theorem ct_X11 {l : Launch} {G : va_G} {cI : ClassId} {d : Nat} : CtorOk l G cI d mX11_init [] 14 1986 10 [.null, .null, .null, .int 0, .null, .null, .null, .null, .null, .null, .null, .null, .int 0, .int 0, .int 0, .int 0, .int 0, .null, .null, .int 0, .int 0, .null, .int 0, .int 0] shR zR := by
  intro h0 sz
  refine wc_enter (by decide +kernel) (Nat.le_of_ble_eq_true rfl) rfl ?_
  show WC l G cI d mX11_init 14 1986 h0 sz 10 [.null, .null, .null, .int 0, .null, .null, .null, .null, .null, .null, .null, .null, .int 0, .int 0, .int 0, .int 0, .int 0, .null, .null, .int 0, .int 0, .null, .int 0, .int 0] shR zR 0 [(0, .ref h0)] [] [(h0, .inr (10, [.null, .null, .null, .int 0, .null, .null, .null, .null, .null, .null, .null, .null, .int 0, .int 0, .int 0, .int 0, .int 0, .null, .null, .int 0, .int 0, .null, .int 0, .int 0]))] 0 0
  refine wc_aload (k := 0) (x := h0) dX11_init_0 List.mem_cons_self ?_
  refine wc_obj dX11_init_1 (k_at 921 (by decide +kernel) rfl) ?_
  refine wc_aload (k := 0) (x := h0) dX11_init_4 List.mem_cons_self ?_
  refine wc_sipush (v := nI 552) dX11_init_5 (by decide) ?_
  refine wc_newa (n := 552) dX11_init_8 (by decide) ⟨Nat.le_of_ble_eq_true rfl, Nat.le_of_ble_eq_true rfl⟩ ?_
  intro q1
  refine wc_putF dX11_init_10 lq_X11_9 rfl ⟨rfl, rfl⟩ (Nat.le_of_ble_eq_true rfl) ?_
  refine wc_aload (k := 0) (x := h0) dX11_init_13 List.mem_cons_self ?_
  refine wc_sipush (v := nI 552) dX11_init_14 (by decide) ?_
  refine wc_newa (n := 552) dX11_init_17 (by decide) ⟨Nat.le_of_ble_eq_true rfl, Nat.le_of_ble_eq_true rfl⟩ ?_
  intro q2
  refine wc_putF dX11_init_19 lq_X11_13 rfl ⟨rfl, rfl⟩ (Nat.le_of_ble_eq_true rfl) ?_
  refine wc_aload (k := 0) (x := h0) dX11_init_22 List.mem_cons_self ?_
  refine wc_sipush (v := nI 552) dX11_init_23 (by decide) ?_
  refine wc_newa (n := 552) dX11_init_26 (by decide) ⟨Nat.le_of_ble_eq_true rfl, Nat.le_of_ble_eq_true rfl⟩ ?_
  intro q3
  refine wc_putF dX11_init_28 lq_X11_16 rfl ⟨rfl, rfl⟩ (Nat.le_of_ble_eq_true rfl) ?_
  refine wc_aload (k := 0) (x := h0) dX11_init_31 List.mem_cons_self ?_
  refine wc_bipush (v := nI 7) dX11_init_32 (by decide) ?_
  refine wc_newa (n := 7) dX11_init_34 (by decide) ⟨Nat.le_of_ble_eq_true rfl, Nat.le_of_ble_eq_true rfl⟩ ?_
  intro q4
  refine wc_putF dX11_init_36 lq_X11_19 rfl ⟨rfl, rfl⟩ (Nat.le_of_ble_eq_true rfl) ?_
  refine wc_aload (k := 0) (x := h0) dX11_init_39 List.mem_cons_self ?_
  refine wc_iconst (v := nI 4) dX11_init_40 rfl ?_
  refine wc_newa (n := 4) dX11_init_41 (by decide) ⟨Nat.le_of_ble_eq_true rfl, Nat.le_of_ble_eq_true rfl⟩ ?_
  intro q5
  refine wc_putF dX11_init_43 lq_X11_22 rfl ⟨rfl, rfl⟩ (Nat.le_of_ble_eq_true rfl) ?_
  refine wc_aload (k := 0) (x := h0) dX11_init_46 List.mem_cons_self ?_
  refine wc_iconst (v := nI 4) dX11_init_47 rfl ?_
  refine wc_newa (n := 4) dX11_init_48 (by decide) ⟨Nat.le_of_ble_eq_true rfl, Nat.le_of_ble_eq_true rfl⟩ ?_
  intro q6
  refine wc_putF dX11_init_50 lq_X11_25 rfl ⟨rfl, rfl⟩ (Nat.le_of_ble_eq_true rfl) ?_
  refine wc_aload (k := 0) (x := h0) dX11_init_53 List.mem_cons_self ?_
  refine wc_bipush (v := nI 96) dX11_init_54 (by decide) ?_
  refine wc_newa (n := 96) dX11_init_56 (by decide) ⟨Nat.le_of_ble_eq_true rfl, Nat.le_of_ble_eq_true rfl⟩ ?_
  intro q7
  refine wc_putF dX11_init_58 lq_X11_28 rfl ⟨rfl, rfl⟩ (Nat.le_of_ble_eq_true rfl) ?_
  refine wc_aload (k := 0) (x := h0) dX11_init_61 List.mem_cons_self ?_
  refine wc_bipush (v := nI 60) dX11_init_62 (by decide) ?_
  refine wc_newa (n := 60) dX11_init_64 (by decide) ⟨Nat.le_of_ble_eq_true rfl, Nat.le_of_ble_eq_true rfl⟩ ?_
  intro q8
  refine wc_putF dX11_init_66 lq_X11_31 rfl ⟨rfl, rfl⟩ (Nat.le_of_ble_eq_true rfl) ?_
  refine wc_aload (k := 0) (x := h0) dX11_init_69 List.mem_cons_self ?_
  refine wc_bipush (v := nI 60) dX11_init_70 (by decide) ?_
  refine wc_newa (n := 60) dX11_init_72 (by decide) ⟨Nat.le_of_ble_eq_true rfl, Nat.le_of_ble_eq_true rfl⟩ ?_
  intro q9
  refine wc_putF dX11_init_74 lq_X11_34 rfl ⟨rfl, rfl⟩ (Nat.le_of_ble_eq_true rfl) ?_
  refine wc_aload (k := 0) (x := h0) dX11_init_77 List.mem_cons_self ?_
  refine wc_iconst (v := nI 3) dX11_init_78 rfl ?_
  refine wc_newa (n := 3) dX11_init_79 (by decide) ⟨Nat.le_of_ble_eq_true rfl, Nat.le_of_ble_eq_true rfl⟩ ?_
  intro q10
  refine wc_putF dX11_init_81 lq_X11_37 rfl ⟨rfl, rfl⟩ (Nat.le_of_ble_eq_true rfl) ?_
  refine wc_aload (k := 0) (x := h0) dX11_init_84 List.mem_cons_self ?_
  refine wc_bipush (v := nI 60) dX11_init_85 (by decide) ?_
  refine wc_newa (n := 60) dX11_init_87 (by decide) ⟨Nat.le_of_ble_eq_true rfl, Nat.le_of_ble_eq_true rfl⟩ ?_
  intro q11
  refine wc_putF dX11_init_89 lq_X11_40 rfl ⟨rfl, rfl⟩ (Nat.le_of_ble_eq_true rfl) ?_
  refine wc_aload (k := 0) (x := h0) dX11_init_92 List.mem_cons_self ?_
  refine wc_iconst (v := nI 3) dX11_init_93 rfl ?_
  refine wc_newa (n := 3) dX11_init_94 (by decide) ⟨Nat.le_of_ble_eq_true rfl, Nat.le_of_ble_eq_true rfl⟩ ?_
  intro q12
  refine wc_putF dX11_init_96 lq_X11_43 rfl ⟨rfl, rfl⟩ (Nat.le_of_ble_eq_true rfl) ?_
  refine wc_aload (k := 0) (x := h0) dX11_init_99 List.mem_cons_self ?_
  refine wc_iconst (v := nI 3) dX11_init_100 rfl ?_
  refine wc_newa (n := 3) dX11_init_101 (by decide) ⟨Nat.le_of_ble_eq_true rfl, Nat.le_of_ble_eq_true rfl⟩ ?_
  intro q13
  refine wc_putF dX11_init_103 lq_X11_46 rfl ⟨rfl, rfl⟩ (Nat.le_of_ble_eq_true rfl) ?_
  refine wc_aload (k := 0) (x := h0) dX11_init_106 List.mem_cons_self ?_
  refine wc_bipush (v := nI 30) dX11_init_107 (by decide) ?_
  refine wc_newa (n := 30) dX11_init_109 (by decide) ⟨Nat.le_of_ble_eq_true rfl, Nat.le_of_ble_eq_true rfl⟩ ?_
  intro q14
  refine wc_putF dX11_init_111 lq_X11_49 rfl ⟨rfl, rfl⟩ (Nat.le_of_ble_eq_true rfl) ?_
  refine wc_aload (k := 0) (x := h0) dX11_init_114 List.mem_cons_self ?_
  refine wc_get (v := .ref q1) dX11_init_115 lf_X11_9 rfl rfl ?_
  refine wc_iconst (v := nI 1) dX11_init_118 rfl ?_
  refine wc_iconst (v := nI 1) dX11_init_119 rfl ?_
  refine wc_iast (j := 1) (n := 552) (f := fun _ => 0) dX11_init_120 rfl (vp_in_nI (by decide) (by decide)) ?_
  exact wc_ret dX11_init_121 rfl (fun i => if i = 0 then h0 else if i = 1 then q1 else if i = 2 then q2 else if i = 3 then q3 else if i = 4 then q4 else if i = 5 then q5 else if i = 6 then q6 else if i = 7 then q7 else if i = 8 then q8 else if i = 9 then q9 else if i = 10 then q10 else if i = 11 then q11 else if i = 12 then q12 else if i = 13 then q13 else q14) rfl rfl ⟨Nat.le_of_ble_eq_true rfl, Nat.le_of_ble_eq_true rfl⟩

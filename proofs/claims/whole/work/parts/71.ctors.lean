/-! the constructors -/
abbrev z0 : Nat → Int32 := fun _ => 0
abbrev rowW : Nat → Int32 := fun k => if k = 11 then nI 1 else 0
abbrev rowD : Nat → Int32 := fun k => if k = 4 then (-1 : Int32) else 0
def zZ : Sg := fun _ => z0
def zW : Sg := fun i => if i = 0 then rowW else z0
def zD : Sg := fun i => if i = 0 then rowD else z0
def zC : Sg := fun i => if i = 1 then rowW else if i = 24 then rowW else if i = 47 then rowD else z0
def zR : Sg := fun i => if i = 1 then upd z0 1 (nI 1) else z0
theorem kc_X4 : k_CL 3 RX4 2 [.null, .int 0] := ⟨TX4, tyX4, rfl, iX4, tyX4_ok, fun j hj => by rcases (show j = 0 ∨ j = 1 by omega) with rfl | rfl <;> rfl, k_at 174 (by decide +kernel) rfl, k_at 78 (by decide +kernel) rfl⟩
theorem kc_X1 : k_CL 0 RX1 6 [.null, .null, .null, .null, .null, .int 0] := ⟨TX1, tyX1, rfl, iX1, tyX1_ok, fun j hj => by rcases (show j = 0 ∨ j = 1 ∨ j = 2 ∨ j = 3 ∨ j = 4 ∨ j = 5 by omega) with rfl | rfl | rfl | rfl | rfl | rfl <;> rfl, k_at 103 (by decide +kernel) rfl, k_at 75 (by decide +kernel) rfl⟩
theorem kc_X2 : k_CL 1 RX2 4 [.null, .null, .null, .int 0] := ⟨TX2, tyX2, rfl, iX2, tyX2_ok, fun j hj => by rcases (show j = 0 ∨ j = 1 ∨ j = 2 ∨ j = 3 by omega) with rfl | rfl | rfl | rfl <;> rfl, k_at 141 (by decide +kernel) rfl, k_at 76 (by decide +kernel) rfl⟩
theorem kc_X6 : k_CL 5 RX6 2 [.null, .null] := ⟨TX6, tyX6, rfl, iX6, tyX6_ok, fun j hj => by rcases (show j = 0 ∨ j = 1 by omega) with rfl | rfl <;> rfl, k_at 168 (by decide +kernel) rfl, k_at 77 (by decide +kernel) rfl⟩
theorem kc_X3 : k_CL 2 RX3 5 [.null, .null, .int 0, .int 0, .int 0] := ⟨TX3, tyX3, rfl, iX3, tyX3_ok, fun j hj => by rcases (show j = 0 ∨ j = 1 ∨ j = 2 ∨ j = 3 ∨ j = 4 by omega) with rfl | rfl | rfl | rfl | rfl <;> rfl, k_at 254 (by decide +kernel) rfl, k_at 79 (by decide +kernel) rfl⟩
theorem kc_X7 : k_CL 6 RX7 3 [.null, .null, .null] := ⟨TX7, tyX7, rfl, iX7, tyX7_ok, fun j hj => by rcases (show j = 0 ∨ j = 1 ∨ j = 2 by omega) with rfl | rfl | rfl <;> rfl, k_at 279 (by decide +kernel) rfl, k_at 80 (by decide +kernel) rfl⟩
theorem kc_X8 : k_CL 7 RX8 5 [.null, .int 0, .int 0, .int 0, .int 0] := ⟨TX8, tyX8, rfl, iX8, tyX8_ok, fun j hj => by rcases (show j = 0 ∨ j = 1 ∨ j = 2 ∨ j = 3 ∨ j = 4 by omega) with rfl | rfl | rfl | rfl | rfl <;> rfl, k_at 295 (by decide +kernel) rfl, k_at 81 (by decide +kernel) rfl⟩
theorem kc_X5 : k_CL 4 RX5 3 [.null, .null, .null] := ⟨TX5, tyX5, rfl, iX5, tyX5_ok, fun j hj => by rcases (show j = 0 ∨ j = 1 ∨ j = 2 by omega) with rfl | rfl | rfl <;> rfl, k_at 321 (by decide +kernel) rfl, k_at 82 (by decide +kernel) rfl⟩
theorem kc_X9 : k_CL 8 RX9 12 [.null, .null, .null, .null, .null, .null, .int 0, .int 0, .int 0, .int 0, .int 0, .int 0] := ⟨TX9, tyX9, rfl, iX9, tyX9_ok, fun j hj => by rcases (show j = 0 ∨ j = 1 ∨ j = 2 ∨ j = 3 ∨ j = 4 ∨ j = 5 ∨ j = 6 ∨ j = 7 ∨ j = 8 ∨ j = 9 ∨ j = 10 ∨ j = 11 by omega) with rfl | rfl | rfl | rfl | rfl | rfl | rfl | rfl | rfl | rfl | rfl | rfl <;> rfl, k_at 97 (by decide +kernel) rfl, k_at 74 (by decide +kernel) rfl⟩
theorem kc_X10 : k_CL 9 RX10 8 [.null, .null, .null, .null, .null, .null, .null, .int 0] := ⟨TX10, tyX10, rfl, iX10, tyX10_ok, fun j hj => by rcases (show j = 0 ∨ j = 1 ∨ j = 2 ∨ j = 3 ∨ j = 4 ∨ j = 5 ∨ j = 6 ∨ j = 7 by omega) with rfl | rfl | rfl | rfl | rfl | rfl | rfl | rfl <;> rfl, k_at 89 (by decide +kernel) rfl, k_at 73 (by decide +kernel) rfl⟩
theorem kc_X11 : k_CL 10 RX11 24 [.null, .null, .null, .int 0, .null, .null, .null, .null, .null, .null, .null, .null, .int 0, .int 0, .int 0, .int 0, .int 0, .null, .null, .int 0, .int 0, .null, .int 0, .int 0] := ⟨TX11, tyX11, rfl, iX11, tyX11_ok, fun j hj => by rcases (show j = 0 ∨ j = 1 ∨ j = 2 ∨ j = 3 ∨ j = 4 ∨ j = 5 ∨ j = 6 ∨ j = 7 ∨ j = 8 ∨ j = 9 ∨ j = 10 ∨ j = 11 ∨ j = 12 ∨ j = 13 ∨ j = 14 ∨ j = 15 ∨ j = 16 ∨ j = 17 ∨ j = 18 ∨ j = 19 ∨ j = 20 ∨ j = 21 ∨ j = 22 ∨ j = 23 by omega) with rfl | rfl | rfl | rfl | rfl | rfl | rfl | rfl | rfl | rfl | rfl | rfl | rfl | rfl | rfl | rfl | rfl | rfl | rfl | rfl | rfl | rfl | rfl | rfl <;> rfl, k_at 917 (by decide +kernel) rfl, k_at 83 (by decide +kernel) rfl⟩
theorem mK_X4 : k_mK mX4_init 1 := ⟨⟨k_at 177 (by decide +kernel) rfl, k_at 78 (by decide +kernel) rfl, by decide +kernel, by decide⟩, k_at 176 (by decide +kernel) rfl, rfl, rfl⟩
theorem mK_X1 : k_mK mX1_init 0 := ⟨⟨k_at 106 (by decide +kernel) rfl, k_at 75 (by decide +kernel) rfl, by decide +kernel, by decide⟩, k_at 105 (by decide +kernel) rfl, rfl, rfl⟩
theorem mK_X2 : k_mK mX2_init 0 := ⟨⟨k_at 144 (by decide +kernel) rfl, k_at 76 (by decide +kernel) rfl, by decide +kernel, by decide⟩, k_at 143 (by decide +kernel) rfl, rfl, rfl⟩
theorem mK_X6 : k_mK mX6_init 0 := ⟨⟨k_at 171 (by decide +kernel) rfl, k_at 77 (by decide +kernel) rfl, by decide +kernel, by decide⟩, k_at 170 (by decide +kernel) rfl, rfl, rfl⟩
theorem mK_X3 : k_mK mX3_init 0 := ⟨⟨k_at 257 (by decide +kernel) rfl, k_at 79 (by decide +kernel) rfl, by decide +kernel, by decide⟩, k_at 256 (by decide +kernel) rfl, rfl, rfl⟩
theorem mK_X7 : k_mK mX7_init 0 := ⟨⟨k_at 282 (by decide +kernel) rfl, k_at 80 (by decide +kernel) rfl, by decide +kernel, by decide⟩, k_at 281 (by decide +kernel) rfl, rfl, rfl⟩
theorem mK_X8 : k_mK mX8_init 0 := ⟨⟨k_at 298 (by decide +kernel) rfl, k_at 81 (by decide +kernel) rfl, by decide +kernel, by decide⟩, k_at 297 (by decide +kernel) rfl, rfl, rfl⟩
theorem mK_X5 : k_mK mX5_init 0 := ⟨⟨k_at 324 (by decide +kernel) rfl, k_at 82 (by decide +kernel) rfl, by decide +kernel, by decide⟩, k_at 323 (by decide +kernel) rfl, rfl, rfl⟩
theorem mK_X9 : k_mK mX9_init 0 := ⟨⟨k_at 100 (by decide +kernel) rfl, k_at 74 (by decide +kernel) rfl, by decide +kernel, by decide⟩, k_at 99 (by decide +kernel) rfl, rfl, rfl⟩
theorem mK_X10 : k_mK mX10_init 0 := ⟨⟨k_at 92 (by decide +kernel) rfl, k_at 73 (by decide +kernel) rfl, by decide +kernel, by decide⟩, k_at 91 (by decide +kernel) rfl, rfl, rfl⟩
theorem mK_X11 : k_mK mX11_init 0 := ⟨⟨k_at 920 (by decide +kernel) rfl, k_at 83 (by decide +kernel) rfl, by decide +kernel, by decide⟩, k_at 919 (by decide +kernel) rfl, rfl, rfl⟩
theorem lq_X4_7 : k_LQ RX4 7 3 0 (.array .int) := ⟨TX4, 2, tyX4, rfl, by decide, iX4, k_at 179 (by decide +kernel) rfl, tyX4_ok, nmX4, rfl, by decide +kernel, rfl⟩
theorem lq_X1_9 : k_LQ RX1 9 0 0 (.array .int) := ⟨TX1, 6, tyX1, rfl, by decide, iX1, k_at 108 (by decide +kernel) rfl, tyX1_ok, nmX1, rfl, by decide +kernel, rfl⟩
theorem lq_X1_15 : k_LQ RX1 15 0 1 (.array .int) := ⟨TX1, 6, tyX1, rfl, by decide, iX1, k_at 111 (by decide +kernel) rfl, tyX1_ok, nmX1, rfl, by decide +kernel, rfl⟩
theorem lq_X1_18 : k_LQ RX1 18 0 2 (.array .int) := ⟨TX1, 6, tyX1, rfl, by decide, iX1, k_at 114 (by decide +kernel) rfl, tyX1_ok, nmX1, rfl, by decide +kernel, rfl⟩
theorem lq_X1_21 : k_LQ RX1 21 0 3 (.array .int) := ⟨TX1, 6, tyX1, rfl, by decide, iX1, k_at 117 (by decide +kernel) rfl, tyX1_ok, nmX1, rfl, by decide +kernel, rfl⟩
theorem lq_X1_24 : k_LQ RX1 24 0 4 (.array .int) := ⟨TX1, 6, tyX1, rfl, by decide, iX1, k_at 121 (by decide +kernel) rfl, tyX1_ok, nmX1, rfl, by decide +kernel, rfl⟩
theorem lq_X2_9 : k_LQ RX2 9 1 0 (.array .int) := ⟨TX2, 4, tyX2, rfl, by decide, iX2, k_at 146 (by decide +kernel) rfl, tyX2_ok, nmX2, rfl, by decide +kernel, rfl⟩
theorem lq_X2_15 : k_LQ RX2 15 1 1 (.array .int) := ⟨TX2, 4, tyX2, rfl, by decide, iX2, k_at 148 (by decide +kernel) rfl, tyX2_ok, nmX2, rfl, by decide +kernel, rfl⟩
theorem lq_X2_18 : k_LQ RX2 18 1 2 (.array .int) := ⟨TX2, 4, tyX2, rfl, by decide, iX2, k_at 150 (by decide +kernel) rfl, tyX2_ok, nmX2, rfl, by decide +kernel, rfl⟩
theorem lq_X6_14 : k_LQ RX6 14 5 0 (.object "SoldDays$Row") := ⟨TX6, 2, tyX6, rfl, by decide, iX6, k_at 193 (by decide +kernel) rfl, tyX6_ok, nmX6, rfl, by decide +kernel, rfl⟩
theorem lq_X6_20 : k_LQ RX6 20 5 1 (.array .int) := ⟨TX6, 2, tyX6, rfl, by decide, iX6, k_at 196 (by decide +kernel) rfl, tyX6_ok, nmX6, rfl, by decide +kernel, rfl⟩
theorem lq_X3_14 : k_LQ RX3 14 2 0 (.object "SoldDays$Row") := ⟨TX3, 5, tyX3, rfl, by decide, iX3, k_at 261 (by decide +kernel) rfl, tyX3_ok, nmX3, rfl, by decide +kernel, rfl⟩
theorem lq_X3_20 : k_LQ RX3 20 2 1 (.object "SoldDays$Row") := ⟨TX3, 5, tyX3, rfl, by decide, iX3, k_at 263 (by decide +kernel) rfl, tyX3_ok, nmX3, rfl, by decide +kernel, rfl⟩
theorem lq_X7_9 : k_LQ RX7 9 6 0 (.array .int) := ⟨TX7, 3, tyX7, rfl, by decide, iX7, k_at 284 (by decide +kernel) rfl, tyX7_ok, nmX7, rfl, by decide +kernel, rfl⟩
theorem lq_X7_15 : k_LQ RX7 15 6 1 (.array .int) := ⟨TX7, 3, tyX7, rfl, by decide, iX7, k_at 285 (by decide +kernel) rfl, tyX7_ok, nmX7, rfl, by decide +kernel, rfl⟩
theorem lq_X7_18 : k_LQ RX7 18 6 2 (.array .int) := ⟨TX7, 3, tyX7, rfl, by decide, iX7, k_at 286 (by decide +kernel) rfl, tyX7_ok, nmX7, rfl, by decide +kernel, rfl⟩
theorem lq_X8_14 : k_LQ RX8 14 7 0 (.object "SoldDays$Row") := ⟨TX8, 5, tyX8, rfl, by decide, iX8, k_at 302 (by decide +kernel) rfl, tyX8_ok, nmX8, rfl, by decide +kernel, rfl⟩
theorem lq_X5_9 : k_LQ RX5 9 4 0 (.array .int) := ⟨TX5, 3, tyX5, rfl, by decide, iX5, k_at 326 (by decide +kernel) rfl, tyX5_ok, nmX5, rfl, by decide +kernel, rfl⟩
theorem lq_X5_15 : k_LQ RX5 15 4 1 (.array .int) := ⟨TX5, 3, tyX5, rfl, by decide, iX5, k_at 328 (by decide +kernel) rfl, tyX5_ok, nmX5, rfl, by decide +kernel, rfl⟩
theorem lq_X5_18 : k_LQ RX5 18 4 2 (.array .int) := ⟨TX5, 3, tyX5, rfl, by decide, iX5, k_at 330 (by decide +kernel) rfl, tyX5_ok, nmX5, rfl, by decide +kernel, rfl⟩
theorem lq_X9_12 : k_LQ RX9 12 8 0 (.object "SoldDays$People") := ⟨TX9, 12, tyX9, rfl, by decide, iX9, k_at 204 (by decide +kernel) rfl, tyX9_ok, nmX9, rfl, by decide +kernel, rfl⟩
theorem lq_X9_21 : k_LQ RX9 21 8 1 (.object "SoldDays$Promises") := ⟨TX9, 12, tyX9, rfl, by decide, iX9, k_at 207 (by decide +kernel) rfl, tyX9_ok, nmX9, rfl, by decide +kernel, rfl⟩
theorem lq_X9_28 : k_LQ RX9 28 8 2 (.object "SoldDays$Text") := ⟨TX9, 12, tyX9, rfl, by decide, iX9, k_at 210 (by decide +kernel) rfl, tyX9_ok, nmX9, rfl, by decide +kernel, rfl⟩
theorem lq_X9_32 : k_LQ RX9 32 8 3 (.object "SoldDays$Text") := ⟨TX9, 12, tyX9, rfl, by decide, iX9, k_at 211 (by decide +kernel) rfl, tyX9_ok, nmX9, rfl, by decide +kernel, rfl⟩
theorem lq_X9_40 : k_LQ RX9 40 8 4 (.object "SoldDays$Row") := ⟨TX9, 12, tyX9, rfl, by decide, iX9, k_at 212 (by decide +kernel) rfl, tyX9_ok, nmX9, rfl, by decide +kernel, rfl⟩
theorem lq_X9_44 : k_LQ RX9 44 8 5 (.object "SoldDays$Row") := ⟨TX9, 12, tyX9, rfl, by decide, iX9, k_at 214 (by decide +kernel) rfl, tyX9_ok, nmX9, rfl, by decide +kernel, rfl⟩
theorem lq_X10_10 : k_LQ RX10 10 9 0 (.object "SoldDays$World") := ⟨TX10, 8, tyX10, rfl, by decide, iX10, k_at 338 (by decide +kernel) rfl, tyX10_ok, nmX10, rfl, by decide +kernel, rfl⟩
theorem lq_X10_16 : k_LQ RX10 16 9 1 (.object "SoldDays$World") := ⟨TX10, 8, tyX10, rfl, by decide, iX10, k_at 339 (by decide +kernel) rfl, tyX10_ok, nmX10, rfl, by decide +kernel, rfl⟩
theorem lq_X10_22 : k_LQ RX10 22 9 2 (.object "SoldDays$Reader") := ⟨TX10, 8, tyX10, rfl, by decide, iX10, k_at 340 (by decide +kernel) rfl, tyX10_ok, nmX10, rfl, by decide +kernel, rfl⟩
theorem lq_X10_29 : k_LQ RX10 29 9 3 (.object "SoldDays$Thoughts") := ⟨TX10, 8, tyX10, rfl, by decide, iX10, k_at 341 (by decide +kernel) rfl, tyX10_ok, nmX10, rfl, by decide +kernel, rfl⟩
theorem lq_X10_36 : k_LQ RX10 36 9 4 (.object "SoldDays$Voices") := ⟨TX10, 8, tyX10, rfl, by decide, iX10, k_at 342 (by decide +kernel) rfl, tyX10_ok, nmX10, rfl, by decide +kernel, rfl⟩
theorem lq_X10_43 : k_LQ RX10 43 9 5 (.object "SoldDays$Sheets") := ⟨TX10, 8, tyX10, rfl, by decide, iX10, k_at 343 (by decide +kernel) rfl, tyX10_ok, nmX10, rfl, by decide +kernel, rfl⟩
theorem lq_X10_47 : k_LQ RX10 47 9 6 (.array .int) := ⟨TX10, 8, tyX10, rfl, by decide, iX10, k_at 344 (by decide +kernel) rfl, tyX10_ok, nmX10, rfl, by decide +kernel, rfl⟩
theorem lq_X11_9 : k_LQ RX11 9 10 0 (.array .int) := ⟨TX11, 24, tyX11, rfl, by decide, iX11, k_at 922 (by decide +kernel) rfl, tyX11_ok, nmX11, rfl, by decide +kernel, rfl⟩
theorem lq_X11_13 : k_LQ RX11 13 10 1 (.array .int) := ⟨TX11, 24, tyX11, rfl, by decide, iX11, k_at 923 (by decide +kernel) rfl, tyX11_ok, nmX11, rfl, by decide +kernel, rfl⟩
theorem lq_X11_16 : k_LQ RX11 16 10 2 (.array .int) := ⟨TX11, 24, tyX11, rfl, by decide, iX11, k_at 924 (by decide +kernel) rfl, tyX11_ok, nmX11, rfl, by decide +kernel, rfl⟩
theorem lq_X11_19 : k_LQ RX11 19 10 4 (.array .int) := ⟨TX11, 24, tyX11, rfl, by decide, iX11, k_at 926 (by decide +kernel) rfl, tyX11_ok, nmX11, rfl, by decide +kernel, rfl⟩
theorem lq_X11_22 : k_LQ RX11 22 10 5 (.array .int) := ⟨TX11, 24, tyX11, rfl, by decide, iX11, k_at 927 (by decide +kernel) rfl, tyX11_ok, nmX11, rfl, by decide +kernel, rfl⟩
theorem lq_X11_25 : k_LQ RX11 25 10 6 (.array .int) := ⟨TX11, 24, tyX11, rfl, by decide, iX11, k_at 928 (by decide +kernel) rfl, tyX11_ok, nmX11, rfl, by decide +kernel, rfl⟩
theorem lq_X11_28 : k_LQ RX11 28 10 7 (.array .int) := ⟨TX11, 24, tyX11, rfl, by decide, iX11, k_at 929 (by decide +kernel) rfl, tyX11_ok, nmX11, rfl, by decide +kernel, rfl⟩
theorem lq_X11_31 : k_LQ RX11 31 10 8 (.array .int) := ⟨TX11, 24, tyX11, rfl, by decide, iX11, k_at 930 (by decide +kernel) rfl, tyX11_ok, nmX11, rfl, by decide +kernel, rfl⟩
theorem lq_X11_34 : k_LQ RX11 34 10 9 (.array .int) := ⟨TX11, 24, tyX11, rfl, by decide, iX11, k_at 931 (by decide +kernel) rfl, tyX11_ok, nmX11, rfl, by decide +kernel, rfl⟩
theorem lq_X11_37 : k_LQ RX11 37 10 10 (.array .int) := ⟨TX11, 24, tyX11, rfl, by decide, iX11, k_at 932 (by decide +kernel) rfl, tyX11_ok, nmX11, rfl, by decide +kernel, rfl⟩
theorem lq_X11_40 : k_LQ RX11 40 10 11 (.array .int) := ⟨TX11, 24, tyX11, rfl, by decide, iX11, k_at 933 (by decide +kernel) rfl, tyX11_ok, nmX11, rfl, by decide +kernel, rfl⟩
theorem lq_X11_43 : k_LQ RX11 43 10 17 (.array .int) := ⟨TX11, 24, tyX11, rfl, by decide, iX11, k_at 939 (by decide +kernel) rfl, tyX11_ok, nmX11, rfl, by decide +kernel, rfl⟩
theorem lq_X11_46 : k_LQ RX11 46 10 18 (.array .int) := ⟨TX11, 24, tyX11, rfl, by decide, iX11, k_at 940 (by decide +kernel) rfl, tyX11_ok, nmX11, rfl, by decide +kernel, rfl⟩
theorem lq_X11_49 : k_LQ RX11 49 10 21 (.array .int) := ⟨TX11, 24, tyX11, rfl, by decide, iX11, k_at 943 (by decide +kernel) rfl, tyX11_ok, nmX11, rfl, by decide +kernel, rfl⟩
theorem ct_X4 {l : Launch} {G : va_G} {cI : ClassId} {d : Nat} {n : Nat} (hn : n < 1000) : CtorOk l G cI d mX4_init [.int (nI n)] 1 n 3 [.null, .int 0] [.inr (3, [some 1, none]), .inl n] zZ := by
  intro h0 sz
  refine wc_enter (by decide +kernel) (Nat.le_of_ble_eq_true rfl) rfl ?_
  show WC l G cI d mX4_init 1 n h0 sz 3 [.null, .int 0] [.inr (3, [some 1, none]), .inl n] zZ 0 [(0, .ref h0), (1, .int (nI n))] [] [(h0, .inr (3, [.null, .int 0]))] 0 0
  refine wc_aload (k := 0) (x := h0) dX4_init_0 List.mem_cons_self ?_
  refine wc_obj dX4_init_1 (k_at 178 (by decide +kernel) rfl) ?_
  refine wc_aload (k := 0) (x := h0) dX4_init_4 List.mem_cons_self ?_
  refine wc_iload (k := 1) (x := nI n) dX4_init_5 (List.mem_cons_of_mem _ List.mem_cons_self) ?_
  refine wc_newa (n := n) dX4_init_6 hn ⟨Nat.le_refl _, Nat.le_of_eq (Nat.zero_add _)⟩ ?_
  intro q1
  refine wc_putF dX4_init_8 lq_X4_7 rfl ⟨rfl, rfl⟩ (Nat.le_of_ble_eq_true rfl) ?_
  refine wc_aload (k := 0) (x := h0) dX4_init_11 List.mem_cons_self ?_
  refine wc_iconst (v := nI 0) dX4_init_12 rfl ?_
  refine wc_put dX4_init_13 lp_X4_13 rfl ⟨rfl, rfl⟩ (Nat.le_of_ble_eq_true rfl) ?_
  exact wc_ret dX4_init_16 rfl (fun i => if i = 0 then h0 else q1) rfl rfl ⟨Nat.le_refl _, Nat.le_of_eq (Nat.zero_add _)⟩
theorem ct_X1 {l : Launch} {G : va_G} {cI : ClassId} {d : Nat} : CtorOk l G cI d mX1_init [] 5 192 0 [.null, .null, .null, .null, .null, .int 0] [.inr (0, [some 1, some 2, some 3, some 4, some 5, none]), .inl 6, .inl 6, .inl 6, .inl 6, .inl 168] zZ := by
  intro h0 sz
  refine wc_enter (by decide +kernel) (Nat.le_of_ble_eq_true rfl) rfl ?_
  show WC l G cI d mX1_init 5 192 h0 sz 0 [.null, .null, .null, .null, .null, .int 0] [.inr (0, [some 1, some 2, some 3, some 4, some 5, none]), .inl 6, .inl 6, .inl 6, .inl 6, .inl 168] zZ 0 [(0, .ref h0)] [] [(h0, .inr (0, [.null, .null, .null, .null, .null, .int 0]))] 0 0
  refine wc_aload (k := 0) (x := h0) dX1_init_0 List.mem_cons_self ?_
  refine wc_obj dX1_init_1 (k_at 107 (by decide +kernel) rfl) ?_
  refine wc_aload (k := 0) (x := h0) dX1_init_4 List.mem_cons_self ?_
  refine wc_bipush (v := nI 6) dX1_init_5 (by decide) ?_
  refine wc_newa (n := 6) dX1_init_7 (by decide) ⟨Nat.le_of_ble_eq_true rfl, Nat.le_of_ble_eq_true rfl⟩ ?_
  intro q1
  refine wc_putF dX1_init_9 lq_X1_9 rfl ⟨rfl, rfl⟩ (Nat.le_of_ble_eq_true rfl) ?_
  refine wc_aload (k := 0) (x := h0) dX1_init_12 List.mem_cons_self ?_
  refine wc_bipush (v := nI 6) dX1_init_13 (by decide) ?_
  refine wc_newa (n := 6) dX1_init_15 (by decide) ⟨Nat.le_of_ble_eq_true rfl, Nat.le_of_ble_eq_true rfl⟩ ?_
  intro q2
  refine wc_putF dX1_init_17 lq_X1_15 rfl ⟨rfl, rfl⟩ (Nat.le_of_ble_eq_true rfl) ?_
  refine wc_aload (k := 0) (x := h0) dX1_init_20 List.mem_cons_self ?_
  refine wc_bipush (v := nI 6) dX1_init_21 (by decide) ?_
  refine wc_newa (n := 6) dX1_init_23 (by decide) ⟨Nat.le_of_ble_eq_true rfl, Nat.le_of_ble_eq_true rfl⟩ ?_
  intro q3
  refine wc_putF dX1_init_25 lq_X1_18 rfl ⟨rfl, rfl⟩ (Nat.le_of_ble_eq_true rfl) ?_
  refine wc_aload (k := 0) (x := h0) dX1_init_28 List.mem_cons_self ?_
  refine wc_bipush (v := nI 6) dX1_init_29 (by decide) ?_
  refine wc_newa (n := 6) dX1_init_31 (by decide) ⟨Nat.le_of_ble_eq_true rfl, Nat.le_of_ble_eq_true rfl⟩ ?_
  intro q4
  refine wc_putF dX1_init_33 lq_X1_21 rfl ⟨rfl, rfl⟩ (Nat.le_of_ble_eq_true rfl) ?_
  refine wc_aload (k := 0) (x := h0) dX1_init_36 List.mem_cons_self ?_
  refine wc_sipush (v := nI 168) dX1_init_37 (by decide) ?_
  refine wc_newa (n := 168) dX1_init_40 (by decide) ⟨Nat.le_of_ble_eq_true rfl, Nat.le_of_ble_eq_true rfl⟩ ?_
  intro q5
  refine wc_putF dX1_init_42 lq_X1_24 rfl ⟨rfl, rfl⟩ (Nat.le_of_ble_eq_true rfl) ?_
  refine wc_aload (k := 0) (x := h0) dX1_init_45 List.mem_cons_self ?_
  refine wc_iconst (v := nI 0) dX1_init_46 rfl ?_
  refine wc_put dX1_init_47 lp_X1_27 rfl ⟨rfl, rfl⟩ (Nat.le_of_ble_eq_true rfl) ?_
  exact wc_ret dX1_init_50 rfl (fun i => if i = 0 then h0 else if i = 1 then q1 else if i = 2 then q2 else if i = 3 then q3 else if i = 4 then q4 else q5) rfl rfl ⟨Nat.le_of_ble_eq_true rfl, Nat.le_of_ble_eq_true rfl⟩
theorem ct_X2 {l : Launch} {G : va_G} {cI : ClassId} {d : Nat} : CtorOk l G cI d mX2_init [] 3 24 1 [.null, .null, .null, .int 0] [.inr (1, [some 1, some 2, some 3, none]), .inl 8, .inl 8, .inl 8] zZ := by
  intro h0 sz
  refine wc_enter (by decide +kernel) (Nat.le_of_ble_eq_true rfl) rfl ?_
  show WC l G cI d mX2_init 3 24 h0 sz 1 [.null, .null, .null, .int 0] [.inr (1, [some 1, some 2, some 3, none]), .inl 8, .inl 8, .inl 8] zZ 0 [(0, .ref h0)] [] [(h0, .inr (1, [.null, .null, .null, .int 0]))] 0 0
  refine wc_aload (k := 0) (x := h0) dX2_init_0 List.mem_cons_self ?_
  refine wc_obj dX2_init_1 (k_at 145 (by decide +kernel) rfl) ?_
  refine wc_aload (k := 0) (x := h0) dX2_init_4 List.mem_cons_self ?_
  refine wc_bipush (v := nI 8) dX2_init_5 (by decide) ?_
  refine wc_newa (n := 8) dX2_init_7 (by decide) ⟨Nat.le_of_ble_eq_true rfl, Nat.le_of_ble_eq_true rfl⟩ ?_
  intro q1
  refine wc_putF dX2_init_9 lq_X2_9 rfl ⟨rfl, rfl⟩ (Nat.le_of_ble_eq_true rfl) ?_
  refine wc_aload (k := 0) (x := h0) dX2_init_12 List.mem_cons_self ?_
  refine wc_bipush (v := nI 8) dX2_init_13 (by decide) ?_
  refine wc_newa (n := 8) dX2_init_15 (by decide) ⟨Nat.le_of_ble_eq_true rfl, Nat.le_of_ble_eq_true rfl⟩ ?_
  intro q2
  refine wc_putF dX2_init_17 lq_X2_15 rfl ⟨rfl, rfl⟩ (Nat.le_of_ble_eq_true rfl) ?_
  refine wc_aload (k := 0) (x := h0) dX2_init_20 List.mem_cons_self ?_
  refine wc_bipush (v := nI 8) dX2_init_21 (by decide) ?_
  refine wc_newa (n := 8) dX2_init_23 (by decide) ⟨Nat.le_of_ble_eq_true rfl, Nat.le_of_ble_eq_true rfl⟩ ?_
  intro q3
  refine wc_putF dX2_init_25 lq_X2_18 rfl ⟨rfl, rfl⟩ (Nat.le_of_ble_eq_true rfl) ?_
  refine wc_aload (k := 0) (x := h0) dX2_init_28 List.mem_cons_self ?_
  refine wc_iconst (v := nI 0) dX2_init_29 rfl ?_
  refine wc_put dX2_init_30 lp_X2_21 rfl ⟨rfl, rfl⟩ (Nat.le_of_ble_eq_true rfl) ?_
  exact wc_ret dX2_init_33 rfl (fun i => if i = 0 then h0 else if i = 1 then q1 else if i = 2 then q2 else q3) rfl rfl ⟨Nat.le_of_ble_eq_true rfl, Nat.le_of_ble_eq_true rfl⟩
theorem ct_X6 {l : Launch} {G : va_G} {cI : ClassId} {d : Nat} : CtorOk l G cI (d + 1) mX6_init [] 3 122 5 [.null, .null] [.inr (5, [some 1, some 3]), .inr (3, [some 2, none]), .inl 60, .inl 60] zZ := by
  intro h0 sz
  refine wc_enter (by decide +kernel) (Nat.le_of_ble_eq_true rfl) rfl ?_
  show WC l G cI (d + 1) mX6_init 3 122 h0 sz 5 [.null, .null] [.inr (5, [some 1, some 3]), .inr (3, [some 2, none]), .inl 60, .inl 60] zZ 0 [(0, .ref h0)] [] [(h0, .inr (5, [.null, .null]))] 0 0
  refine wc_aload (k := 0) (x := h0) dX6_init_0 List.mem_cons_self ?_
  refine wc_obj dX6_init_1 (k_at 172 (by decide +kernel) rfl) ?_
  refine wc_aload (k := 0) (x := h0) dX6_init_4 List.mem_cons_self ?_
  refine wc_new dX6_init_5 kc_X4 (k_at 173 (by decide +kernel) rfl) ⟨Nat.le_of_ble_eq_true rfl, Nat.le_of_ble_eq_true rfl⟩ ?_
  intro q1
  refine wc_dup dX6_init_8 rfl ?_
  refine wc_bipush (v := nI 60) dX6_init_9 (by decide) ?_
  refine wc_call (vs := [.int (nI 60)]) (rest := [.ref q1, .ref h0]) dX6_init_11 mK_X4 (Or.inl (k_at 175 (by decide +kernel) rfl)) rfl (ct_X4 (by decide)) rfl (Nat.le_of_ble_eq_true rfl) ⟨Nat.le_of_ble_eq_true rfl, Nat.le_of_ble_eq_true rfl⟩ ?_
  rintro a1 rfl
  refine wc_putF dX6_init_14 lq_X6_14 rfl ⟨rfl, rfl⟩ (Nat.le_of_ble_eq_true rfl) ?_
  refine wc_aload (k := 0) (x := h0) dX6_init_17 List.mem_cons_self ?_
  refine wc_bipush (v := nI 60) dX6_init_18 (by decide) ?_
  refine wc_newa (n := 60) dX6_init_20 (by decide) ⟨Nat.le_of_ble_eq_true rfl, Nat.le_of_ble_eq_true rfl⟩ ?_
  intro q2
  refine wc_putF dX6_init_22 lq_X6_20 rfl ⟨rfl, rfl⟩ (Nat.le_of_ble_eq_true rfl) ?_
  exact wc_ret dX6_init_25 rfl (fun i => if i = 0 then h0 else if i < 3 then a1 (i - 1) else q2) rfl rfl ⟨Nat.le_of_ble_eq_true rfl, Nat.le_of_ble_eq_true rfl⟩
theorem ct_X3 {l : Launch} {G : va_G} {cI : ClassId} {d : Nat} : CtorOk l G cI (d + 1) mX3_init [] 4 124 2 [.null, .null, .int 0, .int 0, .int 0] [.inr (2, [some 1, some 3, none, none, none]), .inr (3, [some 2, none]), .inl 60, .inr (3, [some 4, none]), .inl 60] zD := by
  intro h0 sz
  refine wc_enter (by decide +kernel) (Nat.le_of_ble_eq_true rfl) rfl ?_
  show WC l G cI (d + 1) mX3_init 4 124 h0 sz 2 [.null, .null, .int 0, .int 0, .int 0] [.inr (2, [some 1, some 3, none, none, none]), .inr (3, [some 2, none]), .inl 60, .inr (3, [some 4, none]), .inl 60] zD 0 [(0, .ref h0)] [] [(h0, .inr (2, [.null, .null, .int 0, .int 0, .int 0]))] 0 0
  refine wc_aload (k := 0) (x := h0) dX3_init_0 List.mem_cons_self ?_
  refine wc_obj dX3_init_1 (k_at 258 (by decide +kernel) rfl) ?_
  refine wc_aload (k := 0) (x := h0) dX3_init_4 List.mem_cons_self ?_
  refine wc_new dX3_init_5 kc_X4 (k_at 259 (by decide +kernel) rfl) ⟨Nat.le_of_ble_eq_true rfl, Nat.le_of_ble_eq_true rfl⟩ ?_
  intro q1
  refine wc_dup dX3_init_8 rfl ?_
  refine wc_bipush (v := nI 60) dX3_init_9 (by decide) ?_
  refine wc_call (vs := [.int (nI 60)]) (rest := [.ref q1, .ref h0]) dX3_init_11 mK_X4 (Or.inl (k_at 260 (by decide +kernel) rfl)) rfl (ct_X4 (by decide)) rfl (Nat.le_of_ble_eq_true rfl) ⟨Nat.le_of_ble_eq_true rfl, Nat.le_of_ble_eq_true rfl⟩ ?_
  rintro a1 rfl
  refine wc_putF dX3_init_14 lq_X3_14 rfl ⟨rfl, rfl⟩ (Nat.le_of_ble_eq_true rfl) ?_
  refine wc_aload (k := 0) (x := h0) dX3_init_17 List.mem_cons_self ?_
  refine wc_new dX3_init_18 kc_X4 (k_at 259 (by decide +kernel) rfl) ⟨Nat.le_of_ble_eq_true rfl, Nat.le_of_ble_eq_true rfl⟩ ?_
  intro q2
  refine wc_dup dX3_init_21 rfl ?_
  refine wc_bipush (v := nI 60) dX3_init_22 (by decide) ?_
  refine wc_call (vs := [.int (nI 60)]) (rest := [.ref q2, .ref h0]) dX3_init_24 mK_X4 (Or.inl (k_at 260 (by decide +kernel) rfl)) rfl (ct_X4 (by decide)) rfl (Nat.le_of_ble_eq_true rfl) ⟨Nat.le_of_ble_eq_true rfl, Nat.le_of_ble_eq_true rfl⟩ ?_
  rintro a2 rfl
  refine wc_putF dX3_init_27 lq_X3_20 rfl ⟨rfl, rfl⟩ (Nat.le_of_ble_eq_true rfl) ?_
  refine wc_aload (k := 0) (x := h0) dX3_init_30 List.mem_cons_self ?_
  refine wc_iconst (v := nI 0) dX3_init_31 rfl ?_
  refine wc_put dX3_init_32 lp_X3_23 rfl ⟨rfl, rfl⟩ (Nat.le_of_ble_eq_true rfl) ?_
  refine wc_aload (k := 0) (x := h0) dX3_init_35 List.mem_cons_self ?_
  refine wc_iconst (v := nI 0) dX3_init_36 rfl ?_
  refine wc_put dX3_init_37 lp_X3_27 rfl ⟨rfl, rfl⟩ (Nat.le_of_ble_eq_true rfl) ?_
  refine wc_aload (k := 0) (x := h0) dX3_init_40 List.mem_cons_self ?_
  refine wc_iconst (v := (-1 : Int32)) dX3_init_41 rfl ?_
  refine wc_put dX3_init_42 lp_X3_30 rfl ⟨rfl, rfl⟩ (Nat.le_of_ble_eq_true rfl) ?_
  exact wc_ret dX3_init_45 rfl (fun i => if i = 0 then h0 else if i < 3 then a1 (i - 1) else a2 (i - 3)) rfl rfl ⟨Nat.le_of_ble_eq_true rfl, Nat.le_of_ble_eq_true rfl⟩
theorem ct_X7 {l : Launch} {G : va_G} {cI : ClassId} {d : Nat} : CtorOk l G cI d mX7_init [] 3 62 6 [.null, .null, .null] [.inr (6, [some 1, some 2, some 3]), .inl 6, .inl 28, .inl 28] zZ := by
  intro h0 sz
  refine wc_enter (by decide +kernel) (Nat.le_of_ble_eq_true rfl) rfl ?_
  show WC l G cI d mX7_init 3 62 h0 sz 6 [.null, .null, .null] [.inr (6, [some 1, some 2, some 3]), .inl 6, .inl 28, .inl 28] zZ 0 [(0, .ref h0)] [] [(h0, .inr (6, [.null, .null, .null]))] 0 0
  refine wc_aload (k := 0) (x := h0) dX7_init_0 List.mem_cons_self ?_
  refine wc_obj dX7_init_1 (k_at 283 (by decide +kernel) rfl) ?_
  refine wc_aload (k := 0) (x := h0) dX7_init_4 List.mem_cons_self ?_
  refine wc_bipush (v := nI 6) dX7_init_5 (by decide) ?_
  refine wc_newa (n := 6) dX7_init_7 (by decide) ⟨Nat.le_of_ble_eq_true rfl, Nat.le_of_ble_eq_true rfl⟩ ?_
  intro q1
  refine wc_putF dX7_init_9 lq_X7_9 rfl ⟨rfl, rfl⟩ (Nat.le_of_ble_eq_true rfl) ?_
  refine wc_aload (k := 0) (x := h0) dX7_init_12 List.mem_cons_self ?_
  refine wc_bipush (v := nI 28) dX7_init_13 (by decide) ?_
  refine wc_newa (n := 28) dX7_init_15 (by decide) ⟨Nat.le_of_ble_eq_true rfl, Nat.le_of_ble_eq_true rfl⟩ ?_
  intro q2
  refine wc_putF dX7_init_17 lq_X7_15 rfl ⟨rfl, rfl⟩ (Nat.le_of_ble_eq_true rfl) ?_
  refine wc_aload (k := 0) (x := h0) dX7_init_20 List.mem_cons_self ?_
  refine wc_bipush (v := nI 28) dX7_init_21 (by decide) ?_
  refine wc_newa (n := 28) dX7_init_23 (by decide) ⟨Nat.le_of_ble_eq_true rfl, Nat.le_of_ble_eq_true rfl⟩ ?_
  intro q3
  refine wc_putF dX7_init_25 lq_X7_18 rfl ⟨rfl, rfl⟩ (Nat.le_of_ble_eq_true rfl) ?_
  exact wc_ret dX7_init_28 rfl (fun i => if i = 0 then h0 else if i = 1 then q1 else if i = 2 then q2 else q3) rfl rfl ⟨Nat.le_of_ble_eq_true rfl, Nat.le_of_ble_eq_true rfl⟩
theorem ct_X8 {l : Launch} {G : va_G} {cI : ClassId} {d : Nat} : CtorOk l G cI (d + 1) mX8_init [] 2 32 7 [.null, .int 0, .int 0, .int 0, .int 0] [.inr (7, [some 1, none, none, none, none]), .inr (3, [some 2, none]), .inl 30] zZ := by
  intro h0 sz
  refine wc_enter (by decide +kernel) (Nat.le_of_ble_eq_true rfl) rfl ?_
  show WC l G cI (d + 1) mX8_init 2 32 h0 sz 7 [.null, .int 0, .int 0, .int 0, .int 0] [.inr (7, [some 1, none, none, none, none]), .inr (3, [some 2, none]), .inl 30] zZ 0 [(0, .ref h0)] [] [(h0, .inr (7, [.null, .int 0, .int 0, .int 0, .int 0]))] 0 0
  refine wc_aload (k := 0) (x := h0) dX8_init_0 List.mem_cons_self ?_
  refine wc_obj dX8_init_1 (k_at 299 (by decide +kernel) rfl) ?_
  refine wc_aload (k := 0) (x := h0) dX8_init_4 List.mem_cons_self ?_
  refine wc_new dX8_init_5 kc_X4 (k_at 300 (by decide +kernel) rfl) ⟨Nat.le_of_ble_eq_true rfl, Nat.le_of_ble_eq_true rfl⟩ ?_
  intro q1
  refine wc_dup dX8_init_8 rfl ?_
  refine wc_bipush (v := nI 30) dX8_init_9 (by decide) ?_
  refine wc_call (vs := [.int (nI 30)]) (rest := [.ref q1, .ref h0]) dX8_init_11 mK_X4 (Or.inl (k_at 301 (by decide +kernel) rfl)) rfl (ct_X4 (by decide)) rfl (Nat.le_of_ble_eq_true rfl) ⟨Nat.le_of_ble_eq_true rfl, Nat.le_of_ble_eq_true rfl⟩ ?_
  rintro a1 rfl
  refine wc_putF dX8_init_14 lq_X8_14 rfl ⟨rfl, rfl⟩ (Nat.le_of_ble_eq_true rfl) ?_
  refine wc_aload (k := 0) (x := h0) dX8_init_17 List.mem_cons_self ?_
  refine wc_iconst (v := nI 0) dX8_init_18 rfl ?_
  refine wc_put dX8_init_19 lp_X8_20 rfl ⟨rfl, rfl⟩ (Nat.le_of_ble_eq_true rfl) ?_
  refine wc_aload (k := 0) (x := h0) dX8_init_22 List.mem_cons_self ?_
  refine wc_iconst (v := nI 0) dX8_init_23 rfl ?_
  refine wc_put dX8_init_24 lp_X8_24 rfl ⟨rfl, rfl⟩ (Nat.le_of_ble_eq_true rfl) ?_
  refine wc_aload (k := 0) (x := h0) dX8_init_27 List.mem_cons_self ?_
  refine wc_iconst (v := nI 0) dX8_init_28 rfl ?_
  refine wc_put dX8_init_29 lp_X8_28 rfl ⟨rfl, rfl⟩ (Nat.le_of_ble_eq_true rfl) ?_
  refine wc_aload (k := 0) (x := h0) dX8_init_32 List.mem_cons_self ?_
  refine wc_iconst (v := nI 0) dX8_init_33 rfl ?_
  refine wc_put dX8_init_34 lp_X8_31 rfl ⟨rfl, rfl⟩ (Nat.le_of_ble_eq_true rfl) ?_
  exact wc_ret dX8_init_37 rfl (fun i => if i = 0 then h0 else a1 (i - 1)) rfl rfl ⟨Nat.le_of_ble_eq_true rfl, Nat.le_of_ble_eq_true rfl⟩
theorem ct_X5 {l : Launch} {G : va_G} {cI : ClassId} {d : Nat} : CtorOk l G cI d mX5_init [] 3 104 4 [.null, .null, .null] [.inr (4, [some 1, some 2, some 3]), .inl 4, .inl 4, .inl 96] zZ := by
  intro h0 sz
  refine wc_enter (by decide +kernel) (Nat.le_of_ble_eq_true rfl) rfl ?_
  show WC l G cI d mX5_init 3 104 h0 sz 4 [.null, .null, .null] [.inr (4, [some 1, some 2, some 3]), .inl 4, .inl 4, .inl 96] zZ 0 [(0, .ref h0)] [] [(h0, .inr (4, [.null, .null, .null]))] 0 0
  refine wc_aload (k := 0) (x := h0) dX5_init_0 List.mem_cons_self ?_
  refine wc_obj dX5_init_1 (k_at 325 (by decide +kernel) rfl) ?_
  refine wc_aload (k := 0) (x := h0) dX5_init_4 List.mem_cons_self ?_
  refine wc_iconst (v := nI 4) dX5_init_5 rfl ?_
  refine wc_newa (n := 4) dX5_init_6 (by decide) ⟨Nat.le_of_ble_eq_true rfl, Nat.le_of_ble_eq_true rfl⟩ ?_
  intro q1
  refine wc_putF dX5_init_8 lq_X5_9 rfl ⟨rfl, rfl⟩ (Nat.le_of_ble_eq_true rfl) ?_
  refine wc_aload (k := 0) (x := h0) dX5_init_11 List.mem_cons_self ?_
  refine wc_iconst (v := nI 4) dX5_init_12 rfl ?_
  refine wc_newa (n := 4) dX5_init_13 (by decide) ⟨Nat.le_of_ble_eq_true rfl, Nat.le_of_ble_eq_true rfl⟩ ?_
  intro q2
  refine wc_putF dX5_init_15 lq_X5_15 rfl ⟨rfl, rfl⟩ (Nat.le_of_ble_eq_true rfl) ?_
  refine wc_aload (k := 0) (x := h0) dX5_init_18 List.mem_cons_self ?_
  refine wc_bipush (v := nI 96) dX5_init_19 (by decide) ?_
  refine wc_newa (n := 96) dX5_init_21 (by decide) ⟨Nat.le_of_ble_eq_true rfl, Nat.le_of_ble_eq_true rfl⟩ ?_
  intro q3
  refine wc_putF dX5_init_23 lq_X5_18 rfl ⟨rfl, rfl⟩ (Nat.le_of_ble_eq_true rfl) ?_
  exact wc_ret dX5_init_26 rfl (fun i => if i = 0 then h0 else if i = 1 then q1 else if i = 2 then q2 else q3) rfl rfl ⟨Nat.le_of_ble_eq_true rfl, Nat.le_of_ble_eq_true rfl⟩

/-! THE START: both say the same; the law's entry -/
theorem rr_start : RR zC zR := by
  have z8 : nQ zC = 0 := by decide
  have c20 : cl (zC 20 1) = 0 := by decide
  have c22 : cl (zC 22 1) = 0 := by decide
  have c13 : cl (zC 13 1) = 0 := by decide
  have c17 : cl (zC 17 1) = 0 := by decide
  have r : ∀ j, j ≠ 1 → zR 1 j = 0 := fun j hj => upd_ne hj
  have k0 : ∀ n, 0 < n → k_lt (0 : Int32) n := fun n hn => ⟨0, hn, rfl⟩
  refine ⟨⟨⟨⟨k0 _ (by decide), fun p hp => ⟨⟨k0 _ (by decide), k0 _ (by decide), k0 _ (by decide), k0 _ (by decide)⟩, fun d hd => k0 _ (by decide)⟩⟩, ⟨r 2 (by decide), fun p hp => ⟨⟨r _ (by omega), r _ (by omega), r _ (by omega), r _ (by omega)⟩, fun d hd => r _ (by omega)⟩⟩, ⟨k0 _ (by decide), fun k hk => absurd hk (by rw [z8]; exact Nat.not_lt_zero k)⟩, ⟨r 3 (by decide), fun k hk => ⟨r _ (by omega), r _ (by omega), r _ (by omega)⟩⟩,
    ⟨k0 _ (by decide), k0 _ (by decide), k0 _ (by decide), k0 _ (by decide), k0 _ (by decide)⟩, ⟨r 0 (by decide), rfl, r 4 (by decide), r 5 (by decide), r 6 (by decide), r 7 (by decide)⟩, ⟨⟨k0 _ (by decide), r 8 (by decide), fun j hj => absurd hj (by rw [c20]; exact Nat.not_lt_zero j)⟩, ⟨k0 _ (by decide), r 9 (by decide), fun j hj => absurd hj (by rw [c22]; exact Nat.not_lt_zero j)⟩⟩,
    ⟨⟨k0 _ (by decide), r 310 (by decide), fun j hj => absurd hj (by rw [c13]; exact Nat.not_lt_zero j), fun k hk => absurd hk (by rw [c13]; exact Nat.not_lt_zero k)⟩, ⟨k0 _ (by decide), r 431 (by decide), fun j hj => absurd hj (by rw [c17]; exact Nat.not_lt_zero j), fun k hk => absurd hk (by rw [c17]; exact Nat.not_lt_zero k)⟩⟩⟩, by decide⟩,
    ⟨rfl, fun z => absurd rfl z⟩, fun k _ => rfl, ⟨fun k _ => ⟨rfl, rfl, k0 _ (by decide)⟩, fun j _ => rfl⟩, ⟨⟨k0 _ (by decide), rfl⟩, fun j _ => rfl⟩⟩
theorem k_known {s : State} {args : Array Value} (hts : ∀ w ∈ k_gw, w.before args s = true) : ∃ G : va_G, ∀ (c : Nat) (q : vw_C), vwCl[c]? = some q → u_Kn s q.1 q.2.1 q.2.2 (G.1 c) (G.2 c) := by
  have of : ∀ {ci N : Nat} {C : String} {fs : List Value}, k_CL ci C N fs → ∃ x : ClassId × (Nat → Nat), ∀ q : vw_C, vwCl[ci]? = some q → u_Kn s q.1 q.2.1 q.2.2 x.1 x.2 := by
    rintro ci N C fs ⟨T, ty, c1, c2, c3, c4, c5, c6⟩
    obtain ⟨a, f, h⟩ := u_known (C := C) (T := T) (N := N) (n := N) hts c2 (hts _ c5)
    exact ⟨(a, f), fun q hq => by cases Option.some.inj (c1.symm.trans hq); exact h⟩
  have one : ∀ c : Nat, ∃ x : ClassId × (Nat → Nat), ∀ q : vw_C, vwCl[c]? = some q → u_Kn s q.1 q.2.1 q.2.2 x.1 x.2 := by
    intro c
    match c with
    | 0 => exact of kc_X1
    | 1 => exact of kc_X2
    | 2 => exact of kc_X3
    | 3 => exact of kc_X4
    | 4 => exact of kc_X5
    | 5 => exact of kc_X6
    | 6 => exact of kc_X7
    | 7 => exact of kc_X8
    | 8 => exact of kc_X9
    | 9 => exact of kc_X10
    | 10 => exact of kc_X11
    | k + 11 =>
      obtain ⟨x, -⟩ := of kc_X1
      exact ⟨x, fun q hq => by simp [vwCl] at hq⟩
  exact ⟨(fun c => (Classical.choose (one c)).1, fun c => (Classical.choose (one c)).2), fun c q hq => Classical.choose_spec (one c) q hq⟩
theorem k_nestT : ∀ q ∈ k_nest, Cond.methodLinkNest q.1 q.2.1 q.2.2 RX10 ∈ lw_tbl := by decide +kernel
abbrev tmA : Term := .static "SoldDays$Kinds" "ABOVE" "[I"
abbrev tmB : Term := .static "SoldDays$Kinds" "BODIES" "[I"
abbrev tmN : Term := .static "SoldDays$Reader" "NAMES" "[C"
theorem fl_A : ∀ j, j < 7 → Cond.eq (.elem tmA (.int (Int32.ofNat j))) (.int (k_tv 0 j)) ∈ flatC (Jvm.Cond.and given_1 narrow_1) := by decide +kernel
theorem fl_B : ∀ j, j < 28 → Cond.eq (.elem tmB (.int (Int32.ofNat j))) (.int (k_tv 1 j)) ∈ flatC (Jvm.Cond.and given_1 narrow_1) := by decide +kernel
theorem fl_N : ∀ j, j < 6 → Cond.eq (.elem tmN (.int (Int32.ofNat j))) (.int (k_tv 2 j)) ∈ flatC (Jvm.Cond.and given_1 narrow_1) := by decide +kernel
section P76
variable {l : Launch} {G : va_G} {cI : ClassId} {b : Nat} {pc : Nat} {lv : List (Nat × Value)}
/-- the tables that nobody writes -/
theorem k_stat_of {s : State} {args : Array Value} (hts : ∀ w ∈ lw_tbl, w.before args s = true) (hgv : (Jvm.Cond.and given_1 narrow_1).before args s = true) : ∃ t : Nat → Nat, ∀ ad : Nat → Nat, ad 1000 = t 0 → ad 1001 = t 1 → ad 1002 = t 2 → k_stat ad (fun q => s.heap.size ≤ q) s s.heap := by
  have hs := flat_of_before _ hgv
  have hA : ∀ a : Nat, a < s.heap.size → ¬ (fun q => s.heap.size ≤ q) a := fun a h => Nat.not_le.mpr h
  obtain ⟨tA, eA, hTA⟩ := va_Tof (tm := tmA) (ty := .int) (N := 7) (f := fun j => .int (k_tv 0 j)) (by decide) (hs (.arrayOf tmA .int) (by decide +kernel)) (va_eqt (hs (.eq (.length tmA) (.int 7)) (by decide +kernel))) (fun j hj => va_eqt (hs _ (fl_A j hj))) hA
  obtain ⟨tB, eB, hTB⟩ := va_Tof (tm := tmB) (ty := .int) (N := 28) (f := fun j => .int (k_tv 1 j)) (by decide) (hs (.arrayOf tmB .int) (by decide +kernel)) (va_eqt (hs (.eq (.length tmB) (.int 28)) (by decide +kernel))) (fun j hj => va_eqt (hs _ (fl_B j hj))) hA
  obtain ⟨tN, eN, hTN⟩ := va_Tof (tm := tmN) (ty := .char) (N := 6) (f := fun j => .int (k_tv 2 j)) (by decide) (hs (.arrayOf tmN .char) (by decide +kernel)) (va_eqt (hs (.eq (.length tmN) (.int 6)) (by decide +kernel))) (fun j hj => va_eqt (hs _ (fl_N j hj))) hA
  have zA := va_Zof (C := "SoldDays$Kinds") (n := "ABOVE") (d := "[I") (hts (.laysStatic "SoldDays$Kinds" "ABOVE" "[I") (by decide +kernel)) (hts (.initialized "SoldDays$Kinds") (by decide +kernel)) eA hA
  have zB := va_Zof (C := "SoldDays$Kinds") (n := "BODIES") (d := "[I") (hts (.laysStatic "SoldDays$Kinds" "BODIES" "[I") (by decide +kernel)) (hts (.initialized "SoldDays$Kinds") (by decide +kernel)) eB hA
  have zN := va_Zof (C := "SoldDays$Reader") (n := "NAMES") (d := "[C") (hts (.laysStatic "SoldDays$Reader" "NAMES" "[C") (by decide +kernel)) (hts (.initialized "SoldDays$Reader") (by decide +kernel)) eN hA
  refine ⟨fun i => if i = 0 then tA else if i = 1 then tB else tN, fun ad e0 e1 e2 => ?_⟩
  have e0 : ad 1000 = tA := e0
  have e1 : ad 1001 = tB := e1
  have e2 : ad 1002 = tN := e2
  unfold k_stat
  rw [e0, e1, e2]
  exact ⟨⟨zA, hTA⟩, ⟨zB, hTB⟩, ⟨zN, hTN⟩⟩
/-- the law calls a constructor -/
theorem k_lawinit {p : Program} {e : Env} {s : State} {m : MethodId} {below : List Frame} {meth : Method} {c : Code} {H : Heap} {locs : List Loc} {ls : Array Slot} {M : KM} {idx ci mc ms q cells slots : Nat} {rest dflt : List Value} {S : Shp} {ζ : Sg} {ws0 : va_W} {Q : State → Prop}
    (hx : p.tables.exec = Jvm.exec) (hb : c.code = cL_law) (hml : c.maxLocals = 4) (hown : s.vm.findClass RL = some m.cls) (hts : ∀ w ∈ lw_tbl, w.before #[Value.ref b] s = true) (hK : va_K G vwCl [(cI, .int)] s) (hN : k_N s)
    (hP : va_P G vwCl (ws0 ++ [(q, .inr (ci, dflt))]) H) (hD : va_D (fun q => s.heap.size ≤ q) (ws0 ++ [(q, .inr (ci, dflt))])) (hS : va_S (fun q => s.heap.size ≤ q) s.heap H locs) (hlo : lv_has ls 4 lv)
    (hd : decode cL_law pc = .ok (.invokespecial idx, 3)) (hm : k_mK M 0) (hl : Cond.methodLink RL idx M.1 ∈ k_gw) (hC : CtorOk l G cI 100 M [] mc ms ci dflt S ζ) (hw : (rest.map fun v => v.category).sum ≤ 8) (hr : cells + mc ≤ 600000 ∧ slots + ms ≤ 7302250)
    (h : ∀ (ad : Nat → Nat) (H1 : Heap) (locs1 : List Loc), ad 0 = q → va_P G vwCl (ws0 ++ k_w (l, G, ad, cI) S ζ) H1 → va_D (fun q => s.heap.size ≤ q) (ws0 ++ k_w (l, G, ad, cI) S ζ) → va_S (fun q => s.heap.size ≤ q) s.heap H1 locs1 → W p l e room_1 s m #[Value.ref b] below meth c H1 locs1 (cells + mc) (slots + ms) Q (F0 m (pc + 3) ls rest)) :
    W p l e room_1 s m #[Value.ref b] below meth c H locs cells slots Q (F0 m pc ls (.ref q :: rest)) := by
  have w_ : ∀ {w : Cond}, w ∈ k_gw → w.before #[Value.ref b] s = true := fun hw => hts _ (List.mem_filter.mp hw).1
  have hPc : va_P G vwCl [(q, .inr (ci, dflt))] H := fun k x hk => by
    obtain ⟨-, rfl⟩ := k_one hk
    exact hP ws0.length _ k_last
  have hDc : va_D (fun _ => True) [(q, (.inr (ci, dflt) : va_E))] := ⟨fun i j x y hi hj _ => by rw [(k_one hi).1, (k_one hj).1], fun _ _ _ => trivial⟩
  have hFc : ∀ a, va_A [(q, .inr (ci, dflt))] H.size a → s.heap.size ≤ a := by
    rintro a (⟨k, e, hk⟩ | hk)
    · obtain ⟨-, h3⟩ := k_one hk
      have : a = q := (Prod.mk.inj h3).1
      rw [this]
      exact hD.2 ws0.length _ k_last
    · exact Nat.le_trans hS.1 hk
  have hRm : (k_rmc 100 mc ms).frames + 1 ≤ room_1.frames ∧ 8 + (M.2.2.1 + 11) + (k_rmc 100 mc ms).locals ≤ room_1.locals := by
    refine ⟨Nat.le_of_ble_eq_true rfl, ?_⟩
    have := hm.1.2.2.2
    show 8 + (M.2.2.1 + 11) + (40 * (100 + 1) + 20) ≤ 84000
    omega
  have pre : PreS s H (k_PC G cI q H.size ci dflt []) (.ref q :: []) := ⟨k_PC.blind, fun U hU hW => ⟨rfl, ⟨by rw [hU], by rw [hU]; exact hPc, hK.moved hW.alike, hDc⟩, hN.warm hW⟩⟩
  have hwd : k_ws M = Cond.code M.1 M.2.1 M.2.2.1 none :: k_gw := by
    show Cond.code M.1 M.2.1 M.2.2.1 M.2.2.2 :: k_gw = _
    rw [hm.2.2.2]
  have run : va_Run p l e room_1 s m #[Value.ref b] below meth c H locs cells slots mc ms (F0 m pc ls (.ref q :: rest)) rest (k_QC l G cI q H.size ci dflt S ζ (Value.ref q :: []).toArray) (va_A [(q, .inr (ci, dflt))] H.size) :=
    va_runI ⟨hx, hb, hml, hown, hts⟩ (hC q H.size) ⟨callB_of 0 hts (k_goodL hm.1.1) hwd rfl rfl (w_ hm.1.2.1) (w_ hl) hm.1.2.2.1 hRm, hm.2.2.1, w_ hm.2.1⟩ pre rfl rfl hlo.1 rfl (by show 2 * 0 + _ ≤ 8; omega) hd hr
  refine va_callv run hS (fun a _ ha => hFc a ha) hFc (fun ad t H1 locs1 ht hvm had hB hz1 hk1 hS1 => ?_)
  obtain ⟨hP1, hD1⟩ := hB
  rw [ht] at hP1
  obtain ⟨hP2, hD2⟩ := k_join hP hD hk1 hFc hP1 hD1
  exact h ad H1 locs1 had hP2 hD2 hS1
theorem k_wE {ad : Nat → Nat} {S : Shp} {σ : Sg} {i : Nat} (h : i < S.length) : ∃ e, (k_w (l, G, ad, cI) S σ)[i]? = some (ad i, e) := by
  rw [k_w_get, List.getElem?_eq_getElem h]
  exact ⟨_, rfl⟩
theorem k_right {α : Type} {a c : List α} {k : Nat} {x : α} (h : c[k]? = some x) : (a ++ c)[a.length + k]? = some x := by
  rw [List.getElem?_append_right (Nat.le_add_right _ _), Nat.add_sub_cancel_left]; exact h
/-- THE LAW, from its entry -/
theorem whole_start {p : Program} {e : Env} {s : State} {m : MethodId} {below : List Frame} {meth : Method} {c : Code} (l : Launch) (hflags : l.flags = flags0) {b L : Nat} {xs : Nat → Int32} (hL : L ≤ 3072) (C0 : lw_At p s m meth c b L xs) : W p l e room_1 s m #[Value.ref b] below meth c s.heap [] 0 0 (lw_Z below #[Value.ref b] s) (entryFrame m ([Value.ref b] : List Value).toArray 4) := by
  obtain ⟨hx, hb, hr, hml, hown, hts, hX, hbl, hlocks, hgv⟩ := C0
  have htg : ∀ w ∈ k_gw, w.before #[Value.ref b] s = true := fun w hw => hts _ (List.mem_filter.mp hw).1
  obtain ⟨G, hG⟩ := k_known htg
  obtain ⟨cI, kA, comp, a1, a2, a3⟩ := Cond.arrayClass_spec (htg _ k_ia)
  have hK : va_K G vwCl [(cI, .int)] s := ⟨hG, fun k q h => by
    obtain ⟨-, rfl⟩ := k_one h
    exact ⟨fun n z => ⟨fun k h => (by cases h), kA, a2, comp, a3⟩, a1⟩⟩
  have hN : k_N s := fun q hq => va_Nw.of rfl (hts _ (k_nestT q hq))
  obtain ⟨t, ht⟩ := k_stat_of hts hgv
  have hA : ∀ q : Nat, s.heap.size ≤ q → (fun q : Nat => s.heap.size ≤ q) q := fun _ h => h
  have hS : va_S (fun q : Nat => s.heap.size ≤ q) s.heap s.heap [] := va_S.rf
  have hP : va_P G vwCl [] s.heap := fun k q h => by simp at h
  have hD : va_D (fun q : Nat => s.heap.size ≤ q) [] := ⟨fun i j p q h => by simp at h, fun k q h => by simp at h⟩
  have hl := lv_entry ([.ref b]) (n := 4) (Nat.le_of_ble_eq_true rfl)
  rw [lg_entry_eq]
  generalize (lg_sl ([.ref b]) ++ List.replicate (4 - (lg_sl ([.ref b])).length) Slot.unset).toArray = ls at hl ⊢
  have hl : lv_has ls 4 [(0, .ref b)] := hl
  obtain ⟨T, ty, c1, c2, c3, c4, c5, c6⟩ := kc_X10
  refine va_new (D := G) (ci := 9) (C := RX10) (T := T) (N := 8) hx hb htg c2 ty c3 hown (htg (.classLink RL 7 RX10) (k_at 88 (by decide +kernel) rfl)) (htg _ c5) (htg _ c6) hK hP hD hS hA c1 c4 (Nat.le_of_ble_eq_true rfl) (Nat.le_of_ble_eq_true rfl) dL_law_0 (fun q1 H1 hP1 hD1 hS1 => ?_)
  refine lv_dup hx hb dL_law_3 rfl ?_
  refine k_lawinit hx hb hml hown hts hK hN hP1 hD1 hS1 hl dL_law_4 mK_X10 (k_at 90 (by decide +kernel) rfl) (ct_X10 (d := 97)) (Nat.le_of_ble_eq_true rfl) ⟨Nat.le_of_ble_eq_true rfl, Nat.le_of_ble_eq_true rfl⟩ (fun aC H2 locs2 had hP2 hD2 hS2 => ?_)
  subst had
  refine lv_astore_n (lv' := [(1, .ref (aC 0)), (0, .ref b)]) hx hb dL_law_7 rfl hl (by decide) rfl (fun ls hl => ?_)
  obtain ⟨T, ty, c1, c2, c3, c4, c5, c6⟩ := kc_X11
  refine va_new (D := G) (ci := 10) (C := RX11) (T := T) (N := 24) hx hb htg c2 ty c3 hown (htg (.classLink RL 10 RX11) (k_at 916 (by decide +kernel) rfl)) (htg _ c5) (htg _ c6) hK hP2 hD2 hS2 hA c1 c4 (Nat.le_of_ble_eq_true rfl) (Nat.le_of_ble_eq_true rfl) dL_law_8 (fun q2 H3 hP3 hD3 hS3 => ?_)
  refine lv_dup hx hb dL_law_11 rfl ?_
  refine k_lawinit hx hb hml hown hts hK hN hP3 hD3 hS3 hl dL_law_12 mK_X11 (k_at 918 (by decide +kernel) rfl) (ct_X11 (d := 100)) (Nat.le_of_ble_eq_true rfl) ⟨Nat.le_of_ble_eq_true rfl, Nat.le_of_ble_eq_true rfl⟩ (fun aR H4 locs4 had hP4 hD4 hS4 => ?_)
  subst had
  refine lv_astore_n (lv' := [(2, .ref (aR 0)), (1, .ref (aC 0)), (0, .ref b)]) hx hb dL_law_15 rfl hl (by decide) rfl (fun ls hl => ?_)
  refine lv_iconst (v := nI 0) hx hb dL_law_16 rfl ?_
  refine lv_istore_n (lv' := [(3, .int (nI 0)), (2, .ref (aR 0)), (1, .ref (aC 0)), (0, .ref b)]) hx hb dL_law_17 rfl hl (by decide) rfl (fun ls hl => ?_)
  have eC : k_w (l, G, fun i => if i < 64 then aC i else t (i - 1000), cI) shC zC = k_w (l, G, aC, cI) shC zC := rfl
  have eR : k_w (l, G, fun i => if i < 64 then aR i else t (i - 1000), cI) shR zR = k_w (l, G, aR, cI) shR zR := rfl
  have iC : ∀ i, i < 64 → ∃ e, (([] ++ k_w (l, G, aC, cI) shC zC) ++ k_w (l, G, aR, cI) shR zR)[i]? = some (aC i, e) := fun i hi => by
    obtain ⟨e, he⟩ := k_wE (l := l) (G := G) (cI := cI) (ad := aC) (S := shC) (σ := zC) (i := i) hi
    exact ⟨e, k_left he⟩
  have lC : ([] ++ k_w (l, G, aC, cI) shC zC).length = 64 := rfl
  have iR : ∀ i, i < 15 → ∃ e, (([] ++ k_w (l, G, aC, cI) shC zC) ++ k_w (l, G, aR, cI) shR zR)[64 + i]? = some (aR i, e) := fun i hi => by
    obtain ⟨e, he⟩ := k_wE (l := l) (G := G) (cI := cI) (ad := aR) (S := shR) (σ := zR) (i := i) hi
    exact ⟨e, by have := k_right (a := [] ++ k_w (l, G, aC, cI) shC zC) he; rw [lC] at this; exact this⟩
  refine W.widen (k := 79) (n := 3511) (Nat.le_of_ble_eq_true rfl) (Nat.le_of_ble_eq_true rfl) ?_
  have ifC : ∀ {i : Nat}, i < 64 → (if i < 64 then aC i else t (i - 1000)) = aC i := fun h => if_pos h
  have ifR : ∀ {i : Nat}, i < 15 → (if i < 64 then aR i else t (i - 1000)) = aR i := fun h => if_pos (by omega)
  refine law_loop (l := l) (G := G) (cI := cI) (adC := fun i => if i < 64 then aC i else t (i - 1000)) (adR := fun i => if i < 64 then aR i else t (i - 1000)) (b := b) (xs := xs) hL (L + 1) 0 (by omega) (by omega) zC zR rr_start p e s m below meth c H4 locs4 ls
    ⟨hx, hb, hml, hr, hlocks, hown, hts, hK, hX, hbl, ⟨ht _ rfl rfl rfl, ht _ rfl rfl rfl⟩, ⟨fun i hi => ?_, fun i j hi hj hij => ?_⟩, ⟨fun i hi => ?_, fun i j hi hj hij => ?_⟩, fun i j hi hj hij => ?_⟩ ?_ ?_ hS4 (lv_sub hl [3, 2, 1, 0] rfl)
  · obtain ⟨e, he⟩ := iC i hi
    show s.heap.size ≤ if i < 64 then aC i else t (i - 1000)
    rw [ifC hi]
    exact hD4.2 i _ he
  · obtain ⟨e, he⟩ := iC i hi
    obtain ⟨e', he'⟩ := iC j hj
    have hij : (if i < 64 then aC i else t (i - 1000)) = (if j < 64 then aC j else t (j - 1000)) := hij
    rw [ifC hi, ifC hj] at hij
    exact hD4.1 i j _ _ he he' hij
  · obtain ⟨e, he⟩ := iR i hi
    show s.heap.size ≤ if i < 64 then aR i else t (i - 1000)
    rw [ifR hi]
    exact hD4.2 (64 + i) _ he
  · obtain ⟨e, he⟩ := iR i hi
    obtain ⟨e', he'⟩ := iR j hj
    have hij : (if i < 64 then aR i else t (i - 1000)) = (if j < 64 then aR j else t (j - 1000)) := hij
    rw [ifR hi, ifR hj] at hij
    have := hD4.1 (64 + i) (64 + j) _ _ he he' hij
    omega
  · obtain ⟨e, he⟩ := iC i hi
    obtain ⟨e', he'⟩ := iR j hj
    have hij : (if i < 64 then aC i else t (i - 1000)) = (if j < 64 then aR j else t (j - 1000)) := hij
    rw [ifC hi, ifR hj] at hij
    have := hD4.1 i (64 + j) _ _ he he' hij
    omega
  · rw [eC]
    exact fun k x hk => hP4 k x (k_left hk)
  · rw [eR]
    exact fun k x hk => hP4 _ x (k_right (a := [] ++ k_w (l, G, aC, cI) shC zC) hk)
end P76

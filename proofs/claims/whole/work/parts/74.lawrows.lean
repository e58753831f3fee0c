/-! THE LAW: its rows, over the class's world and the reference's -/
section P74
variable {l : Launch} {G : va_G} {cI : ClassId} {adC adR : Nat → Nat} {b L : Nat} {xs : Nat → Int32} {pc : Nat} {lv : List (Nat × Value)} {st : List Value} {σ τ : Sg}
def k_FL (G : va_G) (cI : ClassId) (adC adR : Nat → Nat) (b L : Nat) (xs : Nat → Int32) (p : Program) (s : State) (m : MethodId) (meth : Method) (c : Code) : Prop :=
  p.tables.exec = Jvm.exec ∧ c.code = cL_law ∧ c.maxLocals = 4 ∧ meth.sig.returnType = ret ∧ meth.locks = false ∧ s.vm.findClass RL = some m.cls ∧ (∀ w ∈ lw_tbl, w.before #[Value.ref b] s = true) ∧
  va_K G vwCl [(cI, .int)] s ∧ va_X b L xs s s.heap ∧ b < s.heap.size ∧ (k_stat adC (fun q => s.heap.size ≤ q) s s.heap ∧ k_stat adR (fun q => s.heap.size ≤ q) s s.heap) ∧
  ((∀ i, i < 64 → s.heap.size ≤ adC i) ∧ (∀ i j, i < 64 → j < 64 → adC i = adC j → i = j)) ∧ ((∀ i, i < 15 → s.heap.size ≤ adR i) ∧ (∀ i j, i < 15 → j < 15 → adR i = adR j → i = j)) ∧ (∀ i j, i < 64 → j < 15 → adC i ≠ adR j)
def WL (l : Launch) (G : va_G) (cI : ClassId) (adC adR : Nat → Nat) (b L : Nat) (xs : Nat → Int32) (pc : Nat) (lv : List (Nat × Value)) (st : List Value) (σ τ : Sg) : Prop :=
  ∀ (p : Program) (e : Env) (s : State) (m : MethodId) (below : List Frame) (meth : Method) (c : Code) (H : Heap) (locs : List Loc) (ls : Array Slot),
    k_FL G cI adC adR b L xs p s m meth c → va_P G vwCl (k_w (l, G, adC, cI) shC σ) H → va_P G vwCl (k_w (l, G, adR, cI) shR τ) H → va_S (fun q => s.heap.size ≤ q) s.heap H locs → lv_has ls 4 lv →
    W p l e room_1 s m #[Value.ref b] below meth c H locs 79 3511 (lw_Z below #[Value.ref b] s) (F0 m pc ls st)
theorem k_FL.w {p : Program} {s : State} {m : MethodId} {meth : Method} {c : Code} (F : k_FL G cI adC adR b L xs p s m meth c) {w : Cond} (hw : w ∈ k_gw) : w.before #[Value.ref b] s = true := F.2.2.2.2.2.2.1 _ (List.mem_filter.mp hw).1
theorem wl_aload {k : Fin 4} {x : Nat} (hd : decode cL_law pc = .ok (.aload_n k, 1)) (hx : ((k : Nat), Value.ref x) ∈ lv) (h : WL l G cI adC adR b L xs (pc + 1) lv (.ref x :: st) σ τ) : WL l G cI adC adR b L xs pc lv st σ τ := by
  intro p e s m below meth c H locs ls F hP hP' hS hl
  exact lv_aload_n F.1 F.2.1 hd rfl (hl.2.2 _ hx) (h p e s m below meth c H locs ls F hP hP' hS hl)
theorem wl_iload {k : Fin 4} {x : Int32} (hd : decode cL_law pc = .ok (.iload_n k, 1)) (hx : ((k : Nat), Value.int x) ∈ lv) (h : WL l G cI adC adR b L xs (pc + 1) lv (.int x :: st) σ τ) : WL l G cI adC adR b L xs pc lv st σ τ := by
  intro p e s m below meth c H locs ls F hP hP' hS hl
  exact lv_iload_n F.1 F.2.1 hd rfl (hl.2.2 _ hx) (h p e s m below meth c H locs ls F hP hP' hS hl)
theorem wl_iconst {n : Int} {v : Int32} (hd : decode cL_law pc = .ok (.iconst n, 1)) (hv : Int32.ofInt n = v) (h : WL l G cI adC adR b L xs (pc + 1) lv (.int v :: st) σ τ) : WL l G cI adC adR b L xs pc lv st σ τ := by
  intro p e s m below meth c H locs ls F hP hP' hS hl
  exact lv_iconst F.1 F.2.1 hd hv (h p e s m below meth c H locs ls F hP hP' hS hl)
theorem wl_bipush {n : Int} {v : Int32} (hd : decode cL_law pc = .ok (.bipush n, 2)) (hv : (Int8.ofInt n).toInt32 = v) (h : WL l G cI adC adR b L xs (pc + 2) lv (.int v :: st) σ τ) : WL l G cI adC adR b L xs pc lv st σ τ := by
  intro p e s m below meth c H locs ls F hP hP' hS hl
  exact lv_bipush F.1 F.2.1 hd hv (h p e s m below meth c H locs ls F hP hP' hS hl)
theorem wl_iadd {x y : Int32} (hd : decode cL_law pc = .ok (.iadd, 1)) (h : WL l G cI adC adR b L xs (pc + 1) lv (.int (x + y) :: st) σ τ) : WL l G cI adC adR b L xs pc lv (.int y :: .int x :: st) σ τ := by
  intro p e s m below meth c H locs ls F hP hP' hS hl
  exact lv_iadd F.1 F.2.1 hd (h p e s m below meth c H locs ls F hP hP' hS hl)
theorem wl_isub {x y : Int32} (hd : decode cL_law pc = .ok (.isub, 1)) (h : WL l G cI adC adR b L xs (pc + 1) lv (.int (x - y) :: st) σ τ) : WL l G cI adC adR b L xs pc lv (.int y :: .int x :: st) σ τ := by
  intro p e s m below meth c H locs ls F hP hP' hS hl
  exact lv_isub F.1 F.2.1 hd (h p e s m below meth c H locs ls F hP hP' hS hl)
theorem wl_iand {x y : Int32} (hd : decode cL_law pc = .ok (.iand, 1)) (h : WL l G cI adC adR b L xs (pc + 1) lv (.int (x &&& y) :: st) σ τ) : WL l G cI adC adR b L xs pc lv (.int y :: .int x :: st) σ τ := by
  intro p e s m below meth c H locs ls F hP hP' hS hl
  exact lv_iand F.1 F.2.1 hd (h p e s m below meth c H locs ls F hP hP' hS hl)
theorem wl_i2l {x : Int32} (hd : decode cL_law pc = .ok (.i2l, 1)) (h : WL l G cI adC adR b L xs (pc + 1) lv (.long x.toInt64 :: st) σ τ) : WL l G cI adC adR b L xs pc lv (.int x :: st) σ τ := by
  intro p e s m below meth c H locs ls F hP hP' hS hl
  exact lv_i2l F.1 F.2.1 hd rfl (h p e s m below meth c H locs ls F hP hP' hS hl)
theorem wl_lshl {x : Int64} {y : Int32} (hd : decode cL_law pc = .ok (.lshl, 1)) (h : WL l G cI adC adR b L xs (pc + 1) lv (.long (x <<< (y.toInt64 &&& 63)) :: st) σ τ) : WL l G cI adC adR b L xs pc lv (.int y :: .long x :: st) σ τ := by
  intro p e s m below meth c H locs ls F hP hP' hS hl
  exact lv_lshl F.1 F.2.1 hd rfl (h p e s m below meth c H locs ls F hP hP' hS hl)
theorem wl_land {x y : Int64} (hd : decode cL_law pc = .ok (.land, 1)) (h : WL l G cI adC adR b L xs (pc + 1) lv (.long (x &&& y) :: st) σ τ) : WL l G cI adC adR b L xs pc lv (.long y :: .long x :: st) σ τ := by
  intro p e s m below meth c H locs ls F hP hP' hS hl
  exact lv_land F.1 F.2.1 hd (h p e s m below meth c H locs ls F hP hP' hS hl)
theorem wl_lor {x y : Int64} (hd : decode cL_law pc = .ok (.lor, 1)) (h : WL l G cI adC adR b L xs (pc + 1) lv (.long (x ||| y) :: st) σ τ) : WL l G cI adC adR b L xs pc lv (.long y :: .long x :: st) σ τ := by
  intro p e s m below meth c H locs ls F hP hP' hS hl
  exact lv_lor F.1 F.2.1 hd (h p e s m below meth c H locs ls F hP hP' hS hl)
theorem wl_ldc2 {idx : Nat} {v : Int64} (hd : decode cL_law pc = .ok (.ldc2_w idx, 3)) (hc : Cond.constantLong RL idx v ∈ k_gw) (h : WL l G cI adC adR b L xs (pc + 3) lv (.long v :: st) σ τ) : WL l G cI adC adR b L xs pc lv st σ τ := by
  intro p e s m below meth c H locs ls F hP hP' hS hl
  exact lv_ldc2 F.1 F.2.1 F.2.2.2.2.2.1 (F.w hc) hd (h p e s m below meth c H locs ls F hP hP' hS hl)
theorem wl_sld {i : Int32} (hd : decode cL_law pc = .ok (.iaload, 1)) (hi : vp_in i L) (h : WL l G cI adC adR b L xs (pc + 1) lv (.int (xs i.toNatClampNeg) :: st) σ τ) : WL l G cI adC adR b L xs pc lv (.int i :: .ref b :: st) σ τ := by
  intro p e s m below meth c H locs ls F hP hP' hS hl
  exact va_sld F.1 F.2.1 F.2.2.2.2.2.2.2.2.1 F.2.2.2.2.2.2.2.2.2.1 (Nat.not_le.mpr F.2.2.2.2.2.2.2.2.2.1) hS hi hd (h p e s m below meth c H locs ls F hP hP' hS hl)
theorem wl_slen (hd : decode cL_law pc = .ok (.arraylength, 1)) (h : WL l G cI adC adR b L xs (pc + 1) lv (.int (nI L) :: st) σ τ) : WL l G cI adC adR b L xs pc lv (.ref b :: st) σ τ := by
  intro p e s m below meth c H locs ls F hP hP' hS hl
  exact va_slen F.1 F.2.1 F.2.2.2.2.2.2.2.2.1 F.2.2.2.2.2.2.2.2.2.1 (Nat.not_le.mpr F.2.2.2.2.2.2.2.2.2.1) hS hd (h p e s m below meth c H locs ls F hP hP' hS hl)
theorem wl_eq {v : Int32} {off : Int} {tgt : Nat} (hd : decode cL_law pc = .ok (.if_icmp .eq off, 3)) (ht : (pc : Int) + off = (tgt : Int)) (h : WL l G cI adC adR b L xs tgt lv st σ τ) : WL l G cI adC adR b L xs pc lv (.int v :: .int v :: st) σ τ := by
  intro p e s m below meth c H locs ls F hP hP' hS hl
  exact lv_icmp_eq F.1 F.2.1 hd ht (fun _ => h p e s m below meth c H locs ls F hP hP' hS hl) (fun z => absurd rfl z)
theorem wl_gt {x y : Int32} {off : Int} {tgt : Nat} (hd : decode cL_law pc = .ok (.if_icmp .gt off, 3)) (ht : (pc : Int) + off = (tgt : Int)) (h1 : y < x → WL l G cI adC adR b L xs tgt lv st σ τ) (h2 : ¬ y < x → WL l G cI adC adR b L xs (pc + 3) lv st σ τ) : WL l G cI adC adR b L xs pc lv (.int y :: .int x :: st) σ τ := by
  intro p e s m below meth c H locs ls F hP hP' hS hl
  exact lv_icmp_gt F.1 F.2.1 hd ht (fun q => h1 q p e s m below meth c H locs ls F hP hP' hS hl) (fun q => h2 q p e s m below meth c H locs ls F hP hP' hS hl)
theorem wl_goto {off : Int} {tgt : Nat} (hd : decode cL_law pc = .ok (.goto off, 3)) (ht : (pc : Int) + off = (tgt : Int)) (h : WL l G cI adC adR b L xs tgt lv st σ τ) : WL l G cI adC adR b L xs pc lv st σ τ := by
  intro p e s m below meth c H locs ls F hP hP' hS hl
  exact lv_goto F.1 F.2.1 hd ht (h p e s m below meth c H locs ls F hP hP' hS hl)
theorem wl_in {x : Int32} {dflt lo hi : Int} {offs : Array Int} {len : Nat} {off : Int} {tgt : Nat} (hd : decode cL_law pc = .ok (.tableswitch dflt lo hi offs, len)) (h1 : ¬ x.toInt < lo) (h2 : ¬ hi < x.toInt) (ho : offs[(x.toInt - lo).toNat]? = some off) (ht : (pc : Int) + off = (tgt : Int)) (h : WL l G cI adC adR b L xs tgt lv st σ τ) : WL l G cI adC adR b L xs pc lv (.int x :: st) σ τ := by
  intro p e s m below meth c H locs ls F hP hP' hS hl
  exact lv_tableIn F.1 F.2.1 hd h1 h2 ho ht (h p e s m below meth c H locs ls F hP hP' hS hl)
theorem wl_out {x : Int32} {dflt lo hi : Int} {offs : Array Int} {len tgt : Nat} (hd : decode cL_law pc = .ok (.tableswitch dflt lo hi offs, len)) (h1 : x.toInt < lo ∨ hi < x.toInt) (ht : (pc : Int) + dflt = (tgt : Int)) (h : WL l G cI adC adR b L xs tgt lv st σ τ) : WL l G cI adC adR b L xs pc lv (.int x :: st) σ τ := by
  intro p e s m below meth c H locs ls F hP hP' hS hl
  exact lv_tableOut F.1 F.2.1 hd h1 ht (h p e s m below meth c H locs ls F hP hP' hS hl)
/-- the law's locals -/
abbrev k_lv (adC adR : Nat → Nat) (b i : Nat) : List (Nat × Value) := [(0, .ref b), (1, .ref (adC 0)), (2, .ref (adR 0)), (3, .int (nI i))]
theorem wl_next {i : Nat} (hd : decode cL_law pc = .ok (.iinc 3 6, 3)) (h : WL l G cI adC adR b L xs (pc + 3) (k_lv adC adR b (i + 6)) st σ τ) : WL l G cI adC adR b L xs pc (k_lv adC adR b i) st σ τ := by
  intro p e s m below meth c H locs ls F hP hP' hS hl
  refine lv_iinc (v := nI (i + 6)) (k := 3) (lv' := [(3, .int (nI (i + 6))), (0, .ref b), (1, .ref (adC 0)), (2, .ref (adR 0))]) F.1 F.2.1 hd hl rfl (nI_add i 6) (by decide) rfl (fun ls' hl' => ?_)
  exact h p e s m below meth c H locs ls' F hP hP' hS (lv_sub hl' [1, 2, 3, 0] rfl)
/-- one number of the script -/
theorem wl_arg {i k : Nat} {n : Int} (h0 : decode cL_law pc = .ok (.aload_n 0, 1)) (h1 : decode cL_law (pc + 1) = .ok (.iload_n 3, 1)) (h2 : decode cL_law (pc + 2) = .ok (.iconst n, 1)) (h3 : decode cL_law (pc + 3) = .ok (.iadd, 1)) (h4 : decode cL_law (pc + 4) = .ok (.iaload, 1)) (hv : Int32.ofInt n = nI k) (hi : i + k < L) (hL : L ≤ 3072)
    (h : WL l G cI adC adR b L xs (pc + 5) (k_lv adC adR b i) (.int (xs (i + k)) :: st) σ τ) : WL l G cI adC adR b L xs pc (k_lv adC adR b i) st σ τ := by
  refine wl_aload (k := 0) (x := b) h0 List.mem_cons_self ?_
  refine wl_iload (k := 3) (x := nI i) h1 (List.mem_cons_of_mem _ (List.mem_cons_of_mem _ (List.mem_cons_of_mem _ List.mem_cons_self))) ?_
  refine wl_iconst h2 hv ?_
  refine wl_iadd h3 ?_
  rw [nI_add]
  refine wl_sld h4 (vp_in_nI hi (by omega)) ?_
  rw [show (nI (i + k)).toNatClampNeg = i + k from nI_clamp (by omega)]
  exact h
theorem wl_end (hd : decode cL_law pc = .ok (.ireturn, 1)) : WL l G cI adC adR b L xs pc lv [.int 1] σ τ := by
  intro p e s m below meth c H locs ls F hP hP' hS hl
  refine va_forget hS.2.2 (W.widen (k := 600000) (n := 7302250) (Nat.le_of_ble_eq_true rfl) (Nat.le_of_ble_eq_true rfl) ?_)
  exact lw_ret F.1 F.2.1 F.2.2.2.1 F.2.2.2.2.1 hd
/-- the two worlds' addresses -/
theorem k_wA {ad : Nat → Nat} {S : Shp} {σ : Sg} {k : Nat} {x : Nat × va_E} (h : (k_w (l, G, ad, cI) S σ)[k]? = some x) : k < S.length ∧ x.1 = ad k := by
  rw [k_w_get] at h
  cases hs : S[k]? with
  | none => rw [hs] at h; cases h
  | some c =>
    rw [hs] at h
    cases h
    exact ⟨(List.getElem?_eq_some_iff.mp hs).1, rfl⟩
theorem k_wDi {ad : Nat → Nat} {S : Shp} {σ : Sg} (h : ∀ i j, i < S.length → j < S.length → ad i = ad j → i = j) : va_D (k_A (l, G, ad, cI) S) (k_w (l, G, ad, cI) S σ) := by
  refine ⟨fun i j x y hi hj hxy => ?_, fun k x hk => ?_⟩
  · obtain ⟨a1, a2⟩ := k_wA hi
    obtain ⟨b1, b2⟩ := k_wA hj
    exact h i j a1 b1 (by rw [← a2, ← b2]; exact hxy)
  · obtain ⟨a1, a2⟩ := k_wA hk
    exact ⟨k, a1, a2⟩
theorem k_goodL {M : KM} (h : Cond.code M.1 M.2.1 M.2.2.1 M.2.2.2 ∈ k_gw) : GoodIn lw_tbl (k_ws M) := by
  intro w hw
  rcases List.mem_cons.mp hw with rfl | hw
  · exact ⟨(List.mem_filter.mp h).1, good_of_word (List.mem_filter.mp h).2⟩
  · exact ⟨(List.mem_filter.mp hw).1, good_of_word (List.mem_filter.mp hw).2⟩
/-- a call of one world's method, out of the law: the other world stays -/
theorem k_lawcall {p : Program} {e : Env} {s : State} {m : MethodId} {below : List Frame} {meth : Method} {c : Code} {H : Heap} {locs : List Loc} {ls : Array Slot} {ad ad' : Nat → Nat} {S S' : Shp} {M : KM} {n idx ci N : Nat} {fs : List (Option Nat)} {T : u_T} {vs rest : List Value} {K : Int32 → Sg → Prop} {Q : State → Prop}
    (hx : p.tables.exec = Jvm.exec) (hb : c.code = cL_law) (hml : c.maxLocals = 4) (hown : s.vm.findClass RL = some m.cls) (hts : ∀ w ∈ lw_tbl, w.before #[Value.ref b] s = true) (hK : va_K G vwCl [(cI, .int)] s) (hSt : k_stat ad (fun q => s.heap.size ≤ q) s s.heap)
    (hge : ∀ i, i < S.length → s.heap.size ≤ ad i) (hinj : ∀ i j, i < S.length → j < S.length → ad i = ad j → i = j) (hap : ∀ i j, i < S.length → j < S'.length → ad i ≠ ad' j)
    (hP : va_P G vwCl (k_w (l, G, ad, cI) S σ) H) (hP' : va_P G vwCl (k_w (l, G, ad', cI) S' τ) H) (hS : va_S (fun q => s.heap.size ≤ q) s.heap H locs) (hlo : lv_has ls 4 lv)
    (hs : S[0]? = some (.inr (ci, fs))) (hc : vwCl[ci]? = some (M.1.cls, T, N)) (hd : decode cL_law pc = .ok (.invokevirtual idx, 3)) (hm : k_mV M n) (hl : Cond.methodLink RL idx M.1 ∈ k_gw) (hn : vs.length = n) (hv : vs.map (k_cv ad) = vs) (hw : (rest.map fun v => v.category).sum ≤ 8)
    (hC : CallI (l, G, ad, cI) S 100 M (.ref 0 :: vs) σ K)
    (h : ∀ y σ' H1 locs1, K y σ' → va_P G vwCl (k_w (l, G, ad, cI) S σ') H1 → va_P G vwCl (k_w (l, G, ad', cI) S' τ) H1 → va_S (fun q => s.heap.size ≤ q) s.heap H1 locs1 → W p l e room_1 s m #[Value.ref b] below meth c H1 locs1 79 3511 Q (F0 m (pc + 3) ls (.int y :: rest))) :
    W p l e room_1 s m #[Value.ref b] below meth c H locs 79 3511 Q (F0 m pc ls (vs.reverse ++ .ref (ad 0) :: rest)) := by
  have w_ : ∀ {w : Cond}, w ∈ k_gw → w.before #[Value.ref b] s = true := fun hw => hts _ (List.mem_filter.mp hw).1
  have cw : CallW room_1 s #[Value.ref b] RL M.1.cls idx M.1 M.2.1 M.2.2.1 M.2.2.2 (k_ws M) (k_rm 100) 0 0 n := by
    refine ⟨callB_of n hts (k_goodL hm.1.1) rfl rfl rfl (w_ hm.1.2.1) (w_ hl) hm.1.2.2.1 ⟨Nat.le_of_ble_eq_true rfl, ?_⟩, w_ hm.2.1, w_ hm.2.2⟩
    have := hm.1.2.2.2
    show 8 + (M.2.2.1 + 11) + (40 * (100 + 1) + 20) ≤ 84000
    omega
  have hcell := k_cell_o (E := (l, G, ad, cI)) (σ := σ) hs
  obtain ⟨r, hr1, cell, q1, q2, q3, q4⟩ := hP 0 _ hcell
  have hrr : r = (M.1.cls, T, N) := Option.some.inj (hr1.symm.trans hc)
  subst hrr
  obtain ⟨hSl, hfc, kC, hkC, hkind⟩ := hK.1 ci _ hc
  have hA : ∀ q, k_A (l, G, ad, cI) S q → s.heap.size ≤ q := fun q ⟨i, h1, h2⟩ => by rw [h2]; exact hge i h1
  have run := va_runV (p := p) (l := l) (e := e) (R := room_1) (s := s) (m := m) (args := #[Value.ref b]) (below := below) (As := vs) (rest := rest) (b := ad 0) (g := F0 m pc ls (vs.reverse ++ .ref (ad 0) :: rest)) (cells := 79) (slots := 3511) (locs := locs)
    (meth := meth) (H := H) ⟨hx, hb, hml, hown, hts⟩ hC cw ⟨k_blind, ⟨cell, q1, by rw [q3]; rfl, by rw [q2]; exact hfc⟩, fun U hU hW => ⟨by show (Value.ref (ad 0) :: vs).toArray = ((Value.ref (ad 0)) :: vs.map (k_cv ad)).toArray; rw [hv], by rw [hU]; exact hP, hK.moved hW.alike, k_wDi hinj, by rw [hU]; exact ((hSt.kept hS.2.1).narrow hA).moved hW.alike⟩⟩ rfl hn hlo.1 rfl (by show 2 * 0 + _ ≤ 8; omega) hd ⟨Nat.le_of_ble_eq_true rfl, Nat.le_of_ble_eq_true rfl⟩
  intro U hU X
  obtain ⟨v, st₀, t, T', L', h0, X', hL, e1, e2, ⟨⟨v', σ', hv2, ⟨y, ey, hq⟩, hB⟩, hz, hk⟩, st'⟩ := run U hU X
  subst ey
  have hv' : v = some (.int y) := by cases hv2; rfl
  subst hv'
  rw [h0] at hz hk
  have hP1 : va_P G vwCl (k_w (l, G, ad, cI) S σ') T'.heap := by rw [e1]; exact hB.1
  have hP2 : va_P G vwCl (k_w (l, G, ad', cI) S' τ) T'.heap := fun k x hkx => by
    obtain ⟨a1, a2⟩ := k_wA hkx
    have hlt := (hP' k x hkx).lt
    refine (hP' k x hkx).kept ?_
    rw [e1]
    refine hk x.1 hlt ?_
    rintro ⟨i, i1, i2⟩
    exact hap i k i1 a1 (by rw [← a2]; exact i2.symm)
  have hS1 : va_S (fun q => s.heap.size ≤ q) s.heap T'.heap (locs ++ L') := ⟨Nat.le_trans hS.1 (by rw [e1]; exact hz), fun q h1 h2 => by
      rw [e1, hk q (Nat.lt_of_lt_of_le h1 hS.1) (fun z => h2 (hA q z))]
      exact hS.2.1 q h1 h2, fun q hq => by
      rcases List.mem_append.mp hq with h | h
      · exact hS.2.2 q h
      · exact hA _ (hL q h)⟩
  obtain ⟨t2, a1, b1⟩ := h y σ' T'.heap (locs ++ L') hq hP1 hP2 hS1 T' rfl X'
  exact ⟨t2, st' t2 a1, b1⟩
theorem wl_callC {M : KM} {n idx : Nat} {vs rest : List Value} {K : Int32 → Sg → Prop} (hd : decode cL_law pc = .ok (.invokevirtual idx, 3)) (hm : k_mV M n) (hl : Cond.methodLink RL idx M.1 ∈ k_gw) (hc : vwCl[9]? = some (M.1.cls, TX10, 8)) (hn : vs.length = n) (hst : vs.reverse ++ .ref (adC 0) :: rest = st) (hv : vs.map (k_cv adC) = vs) (hw : (rest.map fun v => v.category).sum ≤ 8)
    (hC : CallI (l, G, adC, cI) shC 100 M (.ref 0 :: vs) σ K) (h : ∀ y σ', K y σ' → WL l G cI adC adR b L xs (pc + 3) lv (.int y :: rest) σ' τ) : WL l G cI adC adR b L xs pc lv st σ τ := by
  subst hst
  intro p e s m below meth c H locs ls F hP hP' hS hlo
  exact k_lawcall (S := shC) (S' := shR) (ad := adC) (ad' := adR) F.1 F.2.1 F.2.2.1 F.2.2.2.2.2.1 F.2.2.2.2.2.2.1 F.2.2.2.2.2.2.2.1 F.2.2.2.2.2.2.2.2.2.2.1.1 F.2.2.2.2.2.2.2.2.2.2.2.1.1 F.2.2.2.2.2.2.2.2.2.2.2.1.2 F.2.2.2.2.2.2.2.2.2.2.2.2.2 hP hP' hS hlo hC_0 hc hd hm hl hn hv hw hC (fun y σ' H1 locs1 hk hP1 hP2 hS1 => h y σ' hk p e s m below meth c H1 locs1 ls F hP1 hP2 hS1 hlo)
theorem wl_callR {M : KM} {n idx : Nat} {vs rest : List Value} {K : Int32 → Sg → Prop} (hd : decode cL_law pc = .ok (.invokevirtual idx, 3)) (hm : k_mV M n) (hl : Cond.methodLink RL idx M.1 ∈ k_gw) (hc : vwCl[10]? = some (M.1.cls, TX11, 24)) (hn : vs.length = n) (hst : vs.reverse ++ .ref (adR 0) :: rest = st) (hv : vs.map (k_cv adR) = vs) (hw : (rest.map fun v => v.category).sum ≤ 8)
    (hC : CallI (l, G, adR, cI) shR 100 M (.ref 0 :: vs) τ K) (h : ∀ y τ', K y τ' → WL l G cI adC adR b L xs (pc + 3) lv (.int y :: rest) σ τ') : WL l G cI adC adR b L xs pc lv st σ τ := by
  subst hst
  intro p e s m below meth c H locs ls F hP hP' hS hlo
  exact k_lawcall (S := shR) (S' := shC) (ad := adR) (ad' := adC) F.1 F.2.1 F.2.2.1 F.2.2.2.2.2.1 F.2.2.2.2.2.2.1 F.2.2.2.2.2.2.2.1 F.2.2.2.2.2.2.2.2.2.2.1.2 F.2.2.2.2.2.2.2.2.2.2.2.2.1.1 F.2.2.2.2.2.2.2.2.2.2.2.2.1.2 (fun i j hi hj => (F.2.2.2.2.2.2.2.2.2.2.2.2.2 j i hj hi).symm) hP' hP hS hlo hR_0 hc hd hm hl hn hv hw hC (fun y τ' H1 locs1 hk hP1 hP2 hS1 => h y τ' hk p e s m below meth c H1 locs1 ls F hP2 hP1 hS1 hlo)
end P74

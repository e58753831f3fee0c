/-! CONSTRUCTORS: a world that grows at its end -/
/-- the calls of a nest mate's constructor -/
def k_nest : List (String × Nat × MethodName) := [(RX10, 9, yX9_init), (RX9, 11, yX1_init), (RX9, 20, yX2_init), (RX9, 27, yX6_init), (RX10, 21, yX3_init), (RX10, 28, yX7_init), (RX10, 35, yX8_init), (RX10, 42, yX5_init)]
def k_N (U : State) : Prop := ∀ q ∈ k_nest, va_Nw (.methodLinkNest q.1 q.2.1 q.2.2 RX10) U
theorem k_N.warm {s U : State} (hW : s.WarmedH U.vm) (h : k_N s) : k_N U := fun q hq => va_Nw.warmM hW (h q hq)
def k_rmc (d mc ms : Nat) : Room := { frames := d + 1, cells := mc, slots := ms, locals := 40 * (d + 1) + 20 }
def k_FC (G : va_G) (cI : ClassId) (M : KM) (p : Program) (s : State) (m : MethodId) (args : Array Value) (meth : Method) (c : Code) : Prop :=
  p.tables.exec = Jvm.exec ∧ c.code = M.2.1 ∧ c.maxLocals = M.2.2.1 ∧ meth.sig.returnType = M.2.2.2 ∧ meth.locks = false ∧ s.vm.findClass M.1.cls = some m.cls ∧ (∀ w ∈ k_ws M, w.before args s = true) ∧
  va_K G vwCl [(cI, .int)] s ∧ meth.name = "<init>" ∧ k_N s
def k_PC (G : va_G) (cI : ClassId) (h0 sz ci : Nat) (dflt vs : List Value) : Array Value → State → Prop := va_Pc (.ref h0 :: vs) (fun U => (U.heap.size = sz ∧ va_P G vwCl [(h0, .inr (ci, dflt))] U.heap ∧ va_K G vwCl [(cI, .int)] U ∧ va_D (fun _ => True) [(h0, .inr (ci, dflt))]) ∧ k_N U)
def k_QC (l : Launch) (G : va_G) (cI : ClassId) (h0 sz ci : Nat) (dflt : List Value) (S : Shp) (ζ : Sg) : Array Value → State → Outcome → State → Prop :=
  va_Qv (fun ad : Nat → Nat => ad 0 = h0) (fun ad t => va_P G vwCl (k_w (l, G, ad, cI) S ζ) t.heap ∧ va_D (va_A [(h0, .inr (ci, dflt))] sz) (k_w (l, G, ad, cI) S ζ)) (va_A [(h0, .inr (ci, dflt))] sz)
/-- a constructor: over its own new object, and what it makes -/
def CtorOk (l : Launch) (G : va_G) (cI : ClassId) (d : Nat) (M : KM) (vs : List Value) (mc ms ci : Nat) (dflt : List Value) (S : Shp) (ζ : Sg) : Prop :=
  ∀ h0 sz, Met l M.1 (k_ws M) (k_rmc d mc ms) (k_PC G cI h0 sz ci dflt vs) (k_QC l G cI h0 sz ci dflt S ζ) mc ms (va_A [(h0, .inr (ci, dflt))] sz)
def WC (l : Launch) (G : va_G) (cI : ClassId) (d : Nat) (M : KM) (mc ms h0 sz ci : Nat) (dflt : List Value) (S : Shp) (ζ : Sg) (pc : Nat) (lv : List (Nat × Value)) (st : List Value) (ws : va_W) (cells slots : Nat) : Prop :=
  ∀ (p : Program) (e : Env) (s : State) (m : MethodId) (args : Array Value) (below : List Frame) (meth : Method) (c : Code) (H : Heap) (locs : List Loc) (ls : Array Slot),
    s.heap.size = sz → k_FC G cI M p s m args meth c → va_P G vwCl ws H → va_D (va_A [(h0, .inr (ci, dflt))] sz) ws → va_S (va_A [(h0, .inr (ci, dflt))] sz) s.heap H locs → lv_has ls M.2.2.1 lv →
    W p l e (k_rmc d mc ms) s m args below meth c H locs cells slots (MQ below (k_QC l G cI h0 sz ci dflt S ζ) args s mc ms (va_A [(h0, .inr (ci, dflt))] sz)) (F0 m pc ls st)
theorem k_left {α : Type} {a b : List α} {k : Nat} {x : α} (h : a[k]? = some x) : (a ++ b)[k]? = some x := by
  rw [List.getElem?_append_left (List.getElem?_eq_some_iff.mp h).1]; exact h
theorem k_last {α : Type} {a : List α} {x : α} : (a ++ [x])[a.length]? = some x := by
  rw [List.getElem?_append_right (Nat.le_refl _), Nat.sub_self]; rfl
theorem k_one {α : Type} {x y : α} {k : Nat} (h : [x][k]? = some y) : k = 0 ∧ y = x := by
  cases k with
  | zero => exact ⟨rfl, (Option.some.inj h).symm⟩
  | succ k => simp at h
/-- behind a constructor: the rest, and what came of the last -/
theorem k_join {A0 : Nat → Prop} {D : va_G} {cl : List vw_C} {ws0 w1 : va_W} {q : Nat} {e : va_E} {H H1 : Heap} (hP : va_P D cl (ws0 ++ [(q, e)]) H) (hD : va_D A0 (ws0 ++ [(q, e)])) (hk : ∀ a : Nat, a < H.size → ¬ va_A [(q, e)] H.size a → H1[a]? = H[a]?) (hF : ∀ a, va_A [(q, e)] H.size a → A0 a) (hP1 : va_P D cl w1 H1) (hD1 : va_D (va_A [(q, e)] H.size) w1) : va_P D cl (ws0 ++ w1) H1 ∧ va_D A0 (ws0 ++ w1) := by
  have apart : ∀ (k : Nat) (x : Nat × va_E), ws0[k]? = some x → x.1 < H.size ∧ ¬ va_A [(q, e)] H.size x.1 := by
    intro k x hx
    have hl := (hP k x (k_left hx)).lt
    refine ⟨hl, fun h => ?_⟩
    rcases h with ⟨k2, e2, h⟩ | h
    · obtain ⟨-, h3⟩ := k_one h
      have hq : x.1 = q := (Prod.mk.inj h3).1
      have := hD.1 k ws0.length x (q, e) (k_left hx) k_last hq
      have := (List.getElem?_eq_some_iff.mp hx).1
      omega
    · omega
  refine ⟨va_P.app (fun k x hx => ?_) hP1, va_D.app ⟨fun i j x y hi hj hxy => hD.1 i j x y (k_left hi) (k_left hj) hxy, fun k x hx => hD.2 k x (k_left hx)⟩ (hD1.weaken (fun k x _ h => hF x.1 h)) (fun i j x y hx hy hxy => ?_)⟩
  · obtain ⟨g1, g2⟩ := apart k x hx
    exact (hP k x (k_left hx)).kept (hk x.1 g1 g2)
  · exact (apart i x hx).2 (by rw [hxy]; exact hD1.2 j y hy)
/-- a class: what the tables say of its new objects -/
def k_CL (ci : Nat) (C : String) (N : Nat) (dflt : List Value) : Prop := ∃ (T : u_T) (ty : Nat → FieldType), vwCl[ci]? = some (C, T, N) ∧ (∀ w ∈ u_ws C T N, w ∈ k_gw) ∧ (∀ k, k < N → parseFieldDescriptor (T k).2.2.1 = some (ty k)) ∧ (∀ j, j < N → defaultValue (ty j) = vp_V dflt j) ∧ Cond.instantiable C N ∈ k_gw ∧ Cond.initialized C ∈ k_gw
/-- a final field's link -/
def k_LQ (own : String) (idx ci k : Nat) (ty : FieldType) : Prop := ∃ (T : u_T) (N : Nat) (ty0 : Nat → FieldType), vwCl[ci]? = some (own, T, N) ∧ k < N ∧ (∀ w ∈ u_ws own T N, w ∈ k_gw) ∧ Cond.fieldLink own idx (T k).1 (T k).2.1 (T k).2.2.1 ∈ k_gw ∧
  (∀ k, k < N → parseFieldDescriptor (T k).2.2.1 = some (ty0 k)) ∧ (∀ a, a < N → ∀ b, b < N → a ≠ b → (T a).2.1 ≠ (T b).2.1) ∧ (T k).2.2.2 = true ∧ parseFieldDescriptor (T k).2.2.1 = some ty ∧ (T k).1 = own
def k_mK (M : KM) (n : Nat) : Prop := k_mI M n ∧ Cond.instanceMethod M.1 ∈ k_gw ∧ M.1.name = "<init>" ∧ M.2.2.2 = none
theorem k_oi : Cond.instanceMethod objectInit ∈ k_gw := k_at 94 (by decide +kernel) rfl
theorem k_oc : Cond.code objectInit ⟨#[0xb1]⟩ 1 none ∈ k_gw := k_at 95 (by decide +kernel) rfl
theorem k_ia : Cond.arrayClass .int ∈ k_gw := k_at 139 (by decide +kernel) rfl
section R5
variable {l : Launch} {G : va_G} {cI : ClassId} {d : Nat} {M : KM} {mc ms h0 sz ci : Nat} {dflt : List Value} {S : Shp} {ζ : Sg} {pc : Nat} {lv : List (Nat × Value)} {st : List Value} {ws : va_W} {cells slots : Nat}
theorem k_FC.w {p : Program} {s : State} {m : MethodId} {args : Array Value} {meth : Method} {c : Code} (F : k_FC G cI M p s m args meth c) {w : Cond} (hw : w ∈ k_gw) : w.before args s = true := F.2.2.2.2.2.2.1 _ (List.mem_cons_of_mem _ hw)
theorem k_FC.A {s : State} (hz : s.heap.size = sz) : ∀ q, s.heap.size ≤ q → va_A [(h0, .inr (ci, dflt))] sz q := fun q h => Or.inr (hz ▸ h)
theorem wc_aload {k : Fin 4} {x : Nat} (hd : decode M.2.1 pc = .ok (.aload_n k, 1)) (hx : ((k : Nat), Value.ref x) ∈ lv) (h : WC l G cI d M mc ms h0 sz ci dflt S ζ (pc + 1) lv (.ref x :: st) ws cells slots) : WC l G cI d M mc ms h0 sz ci dflt S ζ pc lv st ws cells slots := by
  intro p e s m args below meth c H locs ls hz F hP hD hS hl
  exact lv_aload_n F.1 F.2.1 hd rfl (hl.2.2 _ hx) (h p e s m args below meth c H locs ls hz F hP hD hS hl)
theorem wc_iload {k : Fin 4} {x : Int32} (hd : decode M.2.1 pc = .ok (.iload_n k, 1)) (hx : ((k : Nat), Value.int x) ∈ lv) (h : WC l G cI d M mc ms h0 sz ci dflt S ζ (pc + 1) lv (.int x :: st) ws cells slots) : WC l G cI d M mc ms h0 sz ci dflt S ζ pc lv st ws cells slots := by
  intro p e s m args below meth c H locs ls hz F hP hD hS hl
  exact lv_iload_n F.1 F.2.1 hd rfl (hl.2.2 _ hx) (h p e s m args below meth c H locs ls hz F hP hD hS hl)
theorem wc_iconst {n : Int} {v : Int32} (hd : decode M.2.1 pc = .ok (.iconst n, 1)) (hv : Int32.ofInt n = v) (h : WC l G cI d M mc ms h0 sz ci dflt S ζ (pc + 1) lv (.int v :: st) ws cells slots) : WC l G cI d M mc ms h0 sz ci dflt S ζ pc lv st ws cells slots := by
  intro p e s m args below meth c H locs ls hz F hP hD hS hl
  exact lv_iconst F.1 F.2.1 hd hv (h p e s m args below meth c H locs ls hz F hP hD hS hl)
theorem wc_bipush {n : Int} {v : Int32} (hd : decode M.2.1 pc = .ok (.bipush n, 2)) (hv : (Int8.ofInt n).toInt32 = v) (h : WC l G cI d M mc ms h0 sz ci dflt S ζ (pc + 2) lv (.int v :: st) ws cells slots) : WC l G cI d M mc ms h0 sz ci dflt S ζ pc lv st ws cells slots := by
  intro p e s m args below meth c H locs ls hz F hP hD hS hl
  exact lv_bipush F.1 F.2.1 hd hv (h p e s m args below meth c H locs ls hz F hP hD hS hl)
theorem wc_sipush {n : Int} {v : Int32} (hd : decode M.2.1 pc = .ok (.sipush n, 3)) (hv : (Int16.ofInt n).toInt32 = v) (h : WC l G cI d M mc ms h0 sz ci dflt S ζ (pc + 3) lv (.int v :: st) ws cells slots) : WC l G cI d M mc ms h0 sz ci dflt S ζ pc lv st ws cells slots := by
  intro p e s m args below meth c H locs ls hz F hP hD hS hl
  exact lv_sipush F.1 F.2.1 hd hv (h p e s m args below meth c H locs ls hz F hP hD hS hl)
theorem wc_dup {v : Value} (hd : decode M.2.1 pc = .ok (.dup, 1)) (hv : v.category = 1) (h : WC l G cI d M mc ms h0 sz ci dflt S ζ (pc + 1) lv (v :: v :: st) ws cells slots) : WC l G cI d M mc ms h0 sz ci dflt S ζ pc lv (v :: st) ws cells slots := by
  intro p e s m args below meth c H locs ls hz F hP hD hS hl
  exact lv_dup F.1 F.2.1 hd hv (h p e s m args below meth c H locs ls hz F hP hD hS hl)
theorem wc_obj {idx x : Nat} (hd : decode M.2.1 pc = .ok (.invokespecial idx, 3)) (hl : Cond.methodLink M.1.cls idx objectInit ∈ k_gw) (h : WC l G cI d M mc ms h0 sz ci dflt S ζ (pc + 3) lv [] ws cells slots) : WC l G cI d M mc ms h0 sz ci dflt S ζ pc lv [.ref x] ws cells slots := by
  intro p e s m args below meth c H locs ls hz F hP hD hS hlo
  refine W.objInit F.1 F.2.1 F.2.2.2.2.2.1 (F.w hl) (F.w k_oi) (F.w k_oc) rfl (by rw [F.2.2.1]; exact hlo.1) rfl hd (Nat.succ_le_succ (Nat.zero_le _)) ?_ (h p e s m args below meth c H locs ls hz F hP hD hS hlo)
  show 2 * 0 + 0 + 12 ≤ 40 * (d + 1) + 20
  omega
theorem wc_new {idx ci' N : Nat} {C : String} {fs : List Value} (hd : decode M.2.1 pc = .ok (.new idx, 3)) (hC : k_CL ci' C N fs) (hcl : Cond.classLink M.1.cls idx C ∈ k_gw) (hr : cells + 1 ≤ mc ∧ slots + N ≤ ms) (h : ∀ q, WC l G cI d M mc ms h0 sz ci dflt S ζ (pc + 3) lv (.ref q :: st) (ws ++ [(q, .inr (ci', fs))]) (cells + 1) (slots + N)) : WC l G cI d M mc ms h0 sz ci dflt S ζ pc lv st ws cells slots := by
  intro p e s m args below meth c H locs ls hz F hP hD hS hl
  obtain ⟨T, ty, c1, c2, c3, c4, c5, c6⟩ := hC
  exact va_new (D := G) (ci := ci') (fs := fs) (C := C) (T := T) (N := N) F.1 F.2.1 F.2.2.2.2.2.2.1 (fun w q => List.mem_cons_of_mem _ (c2 w q)) ty c3 F.2.2.2.2.2.1 (F.w hcl) (F.w c5) (F.w c6) F.2.2.2.2.2.2.2.1 hP hD hS (k_FC.A hz) c1 c4 hr.1 hr.2 hd (fun q H1 hP1 hD1 hS1 => h q p e s m args below meth c H1 locs ls hz F hP1 hD1 hS1 hl)
theorem wc_newa {n : Nat} (hd : decode M.2.1 pc = .ok (.newarray .int, 2)) (hn : n < 1000) (hr : cells + 1 ≤ mc ∧ slots + n ≤ ms) (h : ∀ q, WC l G cI d M mc ms h0 sz ci dflt S ζ (pc + 2) lv (.ref q :: st) (ws ++ [(q, .inl (cI, n, .inl (fun _ => 0)))]) (cells + 1) (slots + n)) : WC l G cI d M mc ms h0 sz ci dflt S ζ pc lv (.int (nI n) :: st) ws cells slots := by
  intro p e s m args below meth c H locs ls hz F hP hD hS hl
  refine va_newa (atype := .int) (ty := .int) (D := G) (tys := [(cI, .int)]) (N' := n) (a0 := (n, .inl (fun _ => 0))) F.1 F.2.1 (F.w k_ia) rfl F.2.2.2.2.2.2.2.1 hP hD hS (k_FC.A hz) (fun cA => rfl) (nI_pos (by omega)) (nI_clamp (by omega)) ?_ hr.1 hr.2 hd (fun q cA H1 hK1 hP1 hD1 hS1 => ?_)
  · show n * 4 ≤ 536870912
    omega
  · have e1 : s.vm.findClass _ = some cI := (hK1.2 0 (cI, .int) rfl).2
    have e2 : s.vm.findClass _ = some cA := (hK1.2 1 (cA, .int) rfl).2
    have : cA = cI := Option.some.inj (e2.symm.trans e1)
    subst this
    exact h q p e s m args below meth c H1 locs ls hz F hP1 hD1 hS1 hl
theorem wc_put {k idx : Nat} {ty : FieldType} {fs : List Value} {tl : va_W} {v : Value} (hd : decode M.2.1 pc = .ok (.putfield idx, 3)) (hL : k_LP M.1.cls idx ci k ty) (hw : ws = (h0, .inr (ci, fs)) :: tl) (hv : narrow ty v = v ∧ fits ty v = true) (hl : k < fs.length) (h : WC l G cI d M mc ms h0 sz ci dflt S ζ (pc + 3) lv st ((h0, .inr (ci, fs.set k v)) :: tl) cells slots) : WC l G cI d M mc ms h0 sz ci dflt S ζ pc lv (v :: .ref h0 :: st) ws cells slots := by
  subst hw
  intro p e s m args below meth c H locs ls hz F hP hD hS hlo
  obtain ⟨C, T, N, ty0, h1, h2, h3, h4, h5, h6, h7, h8⟩ := hL
  exact va_put (D := G) (v := v) F.1 F.2.1 F.2.2.2.2.2.2.1 (fun w q => List.mem_cons_of_mem _ (h3 w q)) ty0 h5 h6 F.2.2.2.2.2.1 F.2.2.2.2.2.2.2.1 hP hD hS 0 rfl h1 k h2 (F.w h4) (fun _ q => q) h7 h8 hv.1 hv.2 hl hd (fun H1 locs1 hP1 hD1 hS1 => h p e s m args below meth c H1 locs1 ls hz F hP1 hD1 hS1 hlo)
theorem wc_putF {k idx : Nat} {ty : FieldType} {fs : List Value} {tl : va_W} {v : Value} (hd : decode M.2.1 pc = .ok (.putfield idx, 3)) (hL : k_LQ M.1.cls idx ci k ty) (hw : ws = (h0, .inr (ci, fs)) :: tl) (hv : narrow ty v = v ∧ fits ty v = true) (hl : k < fs.length) (h : WC l G cI d M mc ms h0 sz ci dflt S ζ (pc + 3) lv st ((h0, .inr (ci, fs.set k v)) :: tl) cells slots) : WC l G cI d M mc ms h0 sz ci dflt S ζ pc lv (v :: .ref h0 :: st) ws cells slots := by
  subst hw
  intro p e s m args below meth c H locs ls hz F hP hD hS hlo
  obtain ⟨T, N, ty0, h1, h2, h3, h4, h5, h6, h7, h8, h9⟩ := hL
  exact va_putF (D := G) (v := v) (own := M.1.cls) (C := M.1.cls) F.1 F.2.1 F.2.2.2.2.2.2.1 (fun w q => List.mem_cons_of_mem _ (h3 w q)) ty0 h5 h6 F.2.2.2.2.2.1 F.2.2.2.2.2.2.2.1 hP hD hS 0 rfl h1 k h2 (F.w h4) (fun _ q => q) h7 F.2.2.2.2.2.2.2.2.1 h9 h8 hv.1 hv.2 hl hd (fun H1 locs1 hP1 hD1 hS1 => h p e s m args below meth c H1 locs1 ls hz F hP1 hD1 hS1 hlo)
theorem wc_get {k idx : Nat} {fs : List Value} {tl : va_W} {v : Value} (hd : decode M.2.1 pc = .ok (.getfield idx, 3)) (hL : k_LF M.1.cls idx ci k) (hw : ws = (h0, .inr (ci, fs)) :: tl) (hv : fs[k]? = some v) (h : WC l G cI d M mc ms h0 sz ci dflt S ζ (pc + 3) lv (v :: st) ws cells slots) : WC l G cI d M mc ms h0 sz ci dflt S ζ pc lv (.ref h0 :: st) ws cells slots := by
  intro p e s m args below meth c H locs ls hz F hP hD hS hlo
  obtain ⟨C, T, N, h1, h2, h3, h4⟩ := hL
  exact va_get (D := G) (v := v) F.1 F.2.1 F.2.2.2.2.2.2.1 (fun w q => List.mem_cons_of_mem _ (h3 w q)) F.2.2.2.2.2.1 F.2.2.2.2.2.2.2.1 hP 0 (by rw [hw]; rfl) h1 k h2 (F.w h4) (fun _ q => q) hv hd (h p e s m args below meth c H locs ls hz F hP hD hS hlo)
theorem wc_iast {j n a : Nat} {f : Nat → Int32} {i x : Int32} (hd : decode M.2.1 pc = .ok (.iastore, 1)) (hw : ws[j]? = some (a, .inl (cI, n, .inl f))) (hi : vp_in i n) (h : WC l G cI d M mc ms h0 sz ci dflt S ζ (pc + 1) lv st (ws.set j (a, .inl (cI, n, .inl (upd f i.toNatClampNeg x)))) cells slots) : WC l G cI d M mc ms h0 sz ci dflt S ζ pc lv (.int x :: .int i :: .ref a :: st) ws cells slots := by
  intro p e s m args below meth c H locs ls hz F hP hD hS hlo
  exact va_iast (D := G) F.1 F.2.1 F.2.2.2.2.2.2.2.1 hP hD hS j 0 hw rfl hi hd (fun H1 locs1 hP1 hD1 hS1 => h p e s m args below meth c H1 locs1 ls hz F hP1 hD1 hS1 hlo)
theorem wc_ret (hd : decode M.2.1 pc = .ok (.return_, 1)) (hr : M.2.2.2 = none) (ad : Nat → Nat) (h1 : ad 0 = h0) (h2 : ws = k_w (l, G, ad, cI) S ζ) (h3 : cells ≤ mc ∧ slots ≤ ms) : WC l G cI d M mc ms h0 sz ci dflt S ζ pc lv [] ws cells slots := by
  intro p e s m args below meth c H locs ls hz F hP hD hS hlo
  refine W.widen h3.1 h3.2 ?_
  refine W.vret F.1 F.2.1 (F.2.2.2.1.trans hr) (fun t ht hW => ⟨⟨ad, rfl, h1, ?_, ?_⟩, hS.F ht⟩) hS.2.2 hd F.2.2.2.2.1
  · rw [ht, ← h2]; exact hP
  · rw [← h2]; exact hD
theorem k_PC.blind {vs : List Value} : FrameBlind (k_PC G cI h0 sz ci dflt vs) := by
  rintro a U g mk ⟨q0, ⟨q1, qP, qK, qD⟩, qN⟩
  exact ⟨q0, ⟨q1, qP, va_K.moved (u := U) (U := U.calling g mk a) (Vm.Alike.refl U.vm) qK, qD⟩, fun q hq => va_Nw.same (u := U) (U := U.calling g mk a) rfl rfl (qN q hq)⟩
/-- a constructor is called: of our own class's package, or a nest mate's -/
theorem wc_call {M' : KM} {mc' ms' n idx ci' q : Nat} {vs rest dflt' : List Value} {S' : Shp} {ζ' : Sg} {ws0 : va_W} (hd : decode M.2.1 pc = .ok (.invokespecial idx, 3)) (hm : k_mK M' n) (hl : Cond.methodLink M.1.cls idx M'.1 ∈ k_gw ∨ (M.1.cls, idx, M'.1) ∈ k_nest) (hn : vs.length = n) (hC : CtorOk l G cI d M' vs mc' ms' ci' dflt' S' ζ') (hst : vs.reverse ++ .ref q :: rest = st) (hw : (rest.map fun v => v.category).sum ≤ 8) (hr : cells + mc' ≤ mc ∧ slots + ms' ≤ ms)
    (h : ∀ ad : Nat → Nat, ad 0 = q → WC l G cI (d + 1) M mc ms h0 sz ci dflt S ζ (pc + 3) lv rest (ws0 ++ k_w (l, G, ad, cI) S' ζ') (cells + mc') (slots + ms')) : WC l G cI (d + 1) M mc ms h0 sz ci dflt S ζ pc lv st (ws0 ++ [(q, .inr (ci', dflt'))]) cells slots := by
  subst hst
  intro p e s m args below meth c H locs ls hz F hP hD hS hlo
  have hPc : va_P G vwCl [(q, .inr (ci', dflt'))] H := fun k x hk => by
    obtain ⟨-, rfl⟩ := k_one hk
    exact hP ws0.length _ k_last
  have hDc : va_D (fun _ => True) [(q, (.inr (ci', dflt') : va_E))] := ⟨fun i j x y hi hj _ => by rw [(k_one hi).1, (k_one hj).1], fun _ _ _ => trivial⟩
  have hFc : ∀ a, va_A [(q, .inr (ci', dflt'))] H.size a → va_A [(h0, .inr (ci, dflt))] sz a := by
    rintro a (⟨k, e, hk⟩ | hk)
    · obtain ⟨-, h3⟩ := k_one hk
      have : a = q := (Prod.mk.inj h3).1
      rw [this]
      exact hD.2 ws0.length _ k_last
    · exact Or.inr (Nat.le_trans (Nat.le_of_eq hz.symm) (Nat.le_trans hS.1 hk))
  have hRm : (k_rmc d mc' ms').frames + 1 ≤ (k_rmc (d + 1) mc ms).frames ∧ 8 + (M'.2.2.1 + 11) + (k_rmc d mc' ms').locals ≤ (k_rmc (d + 1) mc ms).locals := by
    refine ⟨Nat.le_refl _, ?_⟩
    have := hm.1.2.2.2
    show 8 + (M'.2.2.1 + 11) + (40 * (d + 1) + 20) ≤ 40 * (d + 1 + 1) + 20
    omega
  have pre : PreS s H (k_PC G cI q H.size ci' dflt' vs) (.ref q :: vs) := ⟨k_PC.blind, fun U hU hW => ⟨rfl, ⟨by rw [hU], by rw [hU]; exact hPc, F.2.2.2.2.2.2.2.1.moved hW.alike, hDc⟩, F.2.2.2.2.2.2.2.2.2.warm hW⟩⟩
  have hwd : k_ws M' = Cond.code M'.1 M'.2.1 M'.2.2.1 none :: k_gw := by
    show Cond.code M'.1 M'.2.1 M'.2.2.1 M'.2.2.2 :: k_gw = _
    rw [hm.2.2.2]
  have run : va_Run p l e (k_rmc (d + 1) mc ms) s m args below meth c H locs cells slots mc' ms' (F0 m pc ls (vs.reverse ++ .ref q :: rest)) rest (k_QC l G cI q H.size ci' dflt' S' ζ' (Value.ref q :: vs).toArray) (va_A [(q, .inr (ci', dflt'))] H.size) := by
    rcases hl with hl | hl
    · exact va_runI ⟨F.1, F.2.1, F.2.2.1, F.2.2.2.2.2.1, F.2.2.2.2.2.2.1⟩ (hC q H.size) ⟨callB_of n F.2.2.2.2.2.2.1 (k_good hm.1.1) hwd rfl rfl (F.w hm.1.2.1) (F.w hl) hm.1.2.2.1 hRm, hm.2.2.1, F.w hm.2.1⟩ pre rfl hn hlo.1 rfl (by show 2 * 0 + _ ≤ 8; omega) hd hr
    · exact va_runIN (host := RX10) ⟨F.1, F.2.1, F.2.2.1, F.2.2.2.2.2.1, F.2.2.2.2.2.2.1⟩ (hC q H.size) ⟨va_cnB n F.2.2.2.2.2.2.1 (k_good hm.1.1) hwd rfl rfl (F.2.2.2.2.2.2.2.2.2 _ hl) (F.w hm.1.2.1) hm.1.2.2.1 hRm, hm.2.2.1, F.w hm.2.1⟩ pre rfl hn hlo.1 rfl (by show 2 * 0 + _ ≤ 8; omega) hd hr
  refine va_callv run hS (fun a _ ha => hFc a ha) hFc (fun ad t H1 locs1 ht hvm had hB hz1 hk1 hS1 => ?_)
  obtain ⟨hP1, hD1⟩ := hB
  rw [ht] at hP1
  obtain ⟨hP2, hD2⟩ := k_join hP hD hk1 hFc hP1 hD1
  exact h ad had p e s m args below meth c H1 locs1 ls hz F hP2 hD2 hS1 hlo
theorem wc_enter {vs : List Value} (hp : plainName M.1.cls = true) (hn : (lg_sl (.ref h0 :: vs)).length ≤ M.2.2.1) (hi : M.1.name = "<init>") (h : WC l G cI d M mc ms h0 sz ci dflt S ζ 0 (lv_args 0 (.ref h0 :: vs)) [] [(h0, .inr (ci, dflt))] 0 0) : Met l M.1 (k_ws M) (k_rmc d mc ms) (k_PC G cI h0 sz ci dflt vs) (k_QC l G cI h0 sz ci dflt S ζ) mc ms (va_A [(h0, .inr (ci, dflt))] sz) := by
  refine Met.ofW (cc := M.2.1) (maxL := M.2.2.1) (ret := M.2.2.2) hp rfl ?_
  intro p e s m args below meth c s₁ B hml hv
  obtain ⟨rfl, ⟨hz, hP, hK, hD⟩, hN⟩ := hv
  rw [lg_entry_eq]
  have hl := lv_entry (.ref h0 :: vs) (n := M.2.2.1) hn
  have hin : meth.name = "<init>" := (name_of_methodNamed B.named B.method).1.trans hi
  exact h p e s m _ below meth c s.heap [] _ hz ⟨B.exec, B.bytes, hml, B.returns, B.notSynchronized, findClass_of_methodNamed B.named, atoms_spec B.pre, hK, hin, hN⟩ hP hD.self va_S.rf hl
end R5

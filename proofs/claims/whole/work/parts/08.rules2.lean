section R2
variable {E : KE} {S : Shp} {M : KM} {d pc : Nat} {Lo : List (Option Value)} {st : List Value} {σ : Sg} {Q : Option Value → Sg → Prop}
/-- a field's link: its class among vwCl, its place, its row of the tables -/
def k_LF (own : String) (idx ci k : Nat) : Prop := ∃ (C : String) (T : u_T) (N : Nat), vwCl[ci]? = some (C, T, N) ∧ k < N ∧ (∀ w ∈ u_ws C T N, w ∈ k_gw) ∧ Cond.fieldLink own idx (T k).1 (T k).2.1 (T k).2.2.1 ∈ k_gw
/-- a field's link, to be written -/
def k_LP (own : String) (idx ci k : Nat) (ty : FieldType) : Prop := ∃ (C : String) (T : u_T) (N : Nat) (ty0 : Nat → FieldType), vwCl[ci]? = some (C, T, N) ∧ k < N ∧ (∀ w ∈ u_ws C T N, w ∈ k_gw) ∧ Cond.fieldLink own idx (T k).1 (T k).2.1 (T k).2.2.1 ∈ k_gw ∧
  (∀ k, k < N → parseFieldDescriptor (T k).2.2.1 = some (ty0 k)) ∧ (∀ a, a < N → ∀ b, b < N → a ≠ b → (T a).2.1 ≠ (T b).2.1) ∧ (T k).2.2.2 = false ∧ parseFieldDescriptor (T k).2.2.1 = some ty
theorem k_cell_o {i ci : Nat} {fs : List (Option Nat)} (hs : S[i]? = some (.inr (ci, fs))) : (k_w E S σ)[i]? = some (E.2.2.1 i, .inr (ci, k_fv E.2.2.1 (σ i) 0 fs)) := by
  rw [k_w_get, hs]; rfl
theorem k_cell_a {i n : Nat} (hs : S[i]? = some (.inl n)) : (k_w E S σ)[i]? = some (E.2.2.1 i, .inl (E.2.2.2, n, .inl (σ i))) := by
  rw [k_w_get, hs]; rfl
theorem wp_getI {j ci k idx : Nat} {fs : List (Option Nat)} (hd : decode M.2.1 pc = .ok (.getfield idx, 3)) (hL : k_LF M.1.cls idx ci k) (hs : S[j]? = some (.inr (ci, fs))) (hf : fs[k]? = some none) (h : WP E S M d (pc + 3) Lo (.int (σ j k) :: st) σ Q) : WP E S M d pc Lo (.ref j :: st) σ Q := by
  intro p e s m args below meth c H locs ls F hP hS hl
  obtain ⟨C, T, N, h1, h2, h3, h4⟩ := hL
  exact va_get (D := E.2.1) (v := .int (σ j k)) F.1 F.2.1 F.2.2.2.2.2.2.1 (fun w q => List.mem_cons_of_mem _ (h3 w q)) F.2.2.2.2.2.1 F.2.2.2.2.2.2.2.1 hP j (k_cell_o hs) h1 k h2 (k_Alike F h4) (fun _ q => q) (by rw [k_fv_get, hf, Nat.zero_add]; rfl) hd (h p e s m args below meth c H locs ls F hP hS hl)
theorem wp_getR {j ci k idx t : Nat} {fs : List (Option Nat)} (hd : decode M.2.1 pc = .ok (.getfield idx, 3)) (hL : k_LF M.1.cls idx ci k) (hs : S[j]? = some (.inr (ci, fs))) (hf : fs[k]? = some (some t)) (h : WP E S M d (pc + 3) Lo (.ref t :: st) σ Q) : WP E S M d pc Lo (.ref j :: st) σ Q := by
  intro p e s m args below meth c H locs ls F hP hS hl
  obtain ⟨C, T, N, h1, h2, h3, h4⟩ := hL
  exact va_get (D := E.2.1) (v := .ref (E.2.2.1 t)) F.1 F.2.1 F.2.2.2.2.2.2.1 (fun w q => List.mem_cons_of_mem _ (h3 w q)) F.2.2.2.2.2.1 F.2.2.2.2.2.2.2.1 hP j (k_cell_o hs) h1 k h2 (k_Alike F h4) (fun _ q => q) (by rw [k_fv_get, hf]; rfl) hd (h p e s m args below meth c H locs ls F hP hS hl)
theorem wp_put {j ci k idx : Nat} {fs : List (Option Nat)} {v : Int32} {ty : FieldType} (hd : decode M.2.1 pc = .ok (.putfield idx, 3)) (hL : k_LP M.1.cls idx ci k ty) (hs : S[j]? = some (.inr (ci, fs))) (hf : fs[k]? = some none) (h : (narrow ty (.int v) = .int v ∧ fits ty (.int v) = true) ∧ WP E S M d (pc + 3) Lo st (k_put σ j (upd (σ j) k v)) Q) : WP E S M d pc Lo (.int v :: .ref j :: st) σ Q := by
  intro p e s m args below meth c H locs ls F hP hS hl
  obtain ⟨C, T, N, ty0, h1, h2, h3, h4, h5, h6, h7, h8⟩ := hL
  refine va_put (D := E.2.1) (v := .int v) F.1 F.2.1 F.2.2.2.2.2.2.1 (fun w q => List.mem_cons_of_mem _ (h3 w q)) ty0 h5 h6 F.2.2.2.2.2.1 F.2.2.2.2.2.2.2.1 hP (k_wD F.2.2.2.2.2.2.2.2.1) hS j (k_cell_o hs) h1 k h2 (k_Alike F h4) (fun _ q => q) h7 h8 h.1.1 h.1.2 (by rw [k_fv_len]; exact (List.getElem?_eq_some_iff.mp hf).1) hd (fun H1 locs1 hP1 hD1 hS1 => ?_)
  refine h.2 p e s m args below meth c H1 locs1 ls F ?_ hS1 hl
  rw [k_fv_set hf] at hP1
  have e1 := k_w_set (E := E) (σ := σ) hs (upd (σ j) k v)
  rw [← e1]
  exact hP1
theorem wp_iald {j n : Nat} {i : Int32} (hd : decode M.2.1 pc = .ok (.iaload, 1)) (hs : S[j]? = some (.inl n)) (h : vp_in i n ∧ WP E S M d (pc + 1) Lo (.int (σ j i.toNatClampNeg) :: st) σ Q) : WP E S M d pc Lo (.int i :: .ref j :: st) σ Q := by
  intro p e s m args below meth c H locs ls F hP hS hl
  exact va_iald (D := E.2.1) F.1 F.2.1 F.2.2.2.2.2.2.2.1 hP j 0 (k_cell_a hs) rfl h.1 hd (h.2 p e s m args below meth c H locs ls F hP hS hl)
theorem wp_iast {j n : Nat} {i x : Int32} (hd : decode M.2.1 pc = .ok (.iastore, 1)) (hs : S[j]? = some (.inl n)) (h : vp_in i n ∧ WP E S M d (pc + 1) Lo st (k_put σ j (upd (σ j) i.toNatClampNeg x)) Q) : WP E S M d pc Lo (.int x :: .int i :: .ref j :: st) σ Q := by
  intro p e s m args below meth c H locs ls F hP hS hl
  refine va_iast (D := E.2.1) F.1 F.2.1 F.2.2.2.2.2.2.2.1 hP (k_wD F.2.2.2.2.2.2.2.2.1) hS j 0 (k_cell_a hs) rfl h.1 hd (fun H1 locs1 hP1 hD1 hS1 => ?_)
  refine h.2 p e s m args below meth c H1 locs1 ls F ?_ hS1 hl
  have e1 := k_w_set (E := E) (σ := σ) hs (upd (σ j) i.toNatClampNeg x)
  rw [← e1]
  exact hP1
theorem wp_alen {j n : Nat} (hd : decode M.2.1 pc = .ok (.arraylength, 1)) (hs : S[j]? = some (.inl n)) (h : WP E S M d (pc + 1) Lo (.int (nI n) :: st) σ Q) : WP E S M d pc Lo (.ref j :: st) σ Q := by
  intro p e s m args below meth c H locs ls F hP hS hl
  exact va_alen (D := E.2.1) F.1 F.2.1 F.2.2.2.2.2.2.2.1 hP j 0 (k_cell_a hs) rfl rfl hd (h p e s m args below meth c H locs ls F hP hS hl)
/-- the tables: ABOVE, BODIES, NAMES -/
theorem wp_gets0 {idx : Nat} (hd : decode M.2.1 pc = .ok (.getstatic idx, 3)) (hL : Cond.fieldLink M.1.cls idx "SoldDays$Kinds" "ABOVE" "[I" ∈ k_gw) (h : WP E S M d (pc + 3) Lo (.ref 1000 :: st) σ Q) : WP E S M d pc Lo st σ Q := by
  intro p e s m args below meth c H locs ls F hP hS hl
  exact va_gets F.1 F.2.1 F.2.2.2.2.2.2.2.2.2.1.1 hS F.2.2.2.2.2.1 (k_Alike F hL) (fun _ q => q) hd (h p e s m args below meth c H locs ls F hP hS hl)
theorem wp_gets1 {idx : Nat} (hd : decode M.2.1 pc = .ok (.getstatic idx, 3)) (hL : Cond.fieldLink M.1.cls idx "SoldDays$Kinds" "BODIES" "[I" ∈ k_gw) (h : WP E S M d (pc + 3) Lo (.ref 1001 :: st) σ Q) : WP E S M d pc Lo st σ Q := by
  intro p e s m args below meth c H locs ls F hP hS hl
  exact va_gets F.1 F.2.1 F.2.2.2.2.2.2.2.2.2.2.1.1 hS F.2.2.2.2.2.1 (k_Alike F hL) (fun _ q => q) hd (h p e s m args below meth c H locs ls F hP hS hl)
theorem wp_gets2 {idx : Nat} (hd : decode M.2.1 pc = .ok (.getstatic idx, 3)) (hL : Cond.fieldLink M.1.cls idx "SoldDays$Reader" "NAMES" "[C" ∈ k_gw) (h : WP E S M d (pc + 3) Lo (.ref 1002 :: st) σ Q) : WP E S M d pc Lo st σ Q := by
  intro p e s m args below meth c H locs ls F hP hS hl
  exact va_gets F.1 F.2.1 F.2.2.2.2.2.2.2.2.2.2.2.1 hS F.2.2.2.2.2.1 (k_Alike F hL) (fun _ q => q) hd (h p e s m args below meth c H locs ls F hP hS hl)
theorem wp_tab0 {i : Int32} (hd : decode M.2.1 pc = .ok (.iaload, 1)) (h : vp_in i 7 ∧ WP E S M d (pc + 1) Lo (.int (k_tv 0 i.toNatClampNeg) :: st) σ Q) : WP E S M d pc Lo (.int i :: .ref 1000 :: st) σ Q := by
  intro p e s m args below meth c H locs ls F hP hS hl
  exact va_ti F.1 F.2.1 F.2.2.2.2.2.2.2.2.2.1.2 hS h.1 rfl hd (h.2 p e s m args below meth c H locs ls F hP hS hl)
theorem wp_tab1 {i : Int32} (hd : decode M.2.1 pc = .ok (.iaload, 1)) (h : vp_in i 28 ∧ WP E S M d (pc + 1) Lo (.int (k_tv 1 i.toNatClampNeg) :: st) σ Q) : WP E S M d pc Lo (.int i :: .ref 1001 :: st) σ Q := by
  intro p e s m args below meth c H locs ls F hP hS hl
  exact va_ti F.1 F.2.1 F.2.2.2.2.2.2.2.2.2.2.1.2 hS h.1 rfl hd (h.2 p e s m args below meth c H locs ls F hP hS hl)
theorem wp_tab2 {i : Int32} (hd : decode M.2.1 pc = .ok (.caload, 1)) (h : vp_in i 6 ∧ WP E S M d (pc + 1) Lo (.int (k_tv 2 i.toNatClampNeg) :: st) σ Q) : WP E S M d pc Lo (.int i :: .ref 1002 :: st) σ Q := by
  intro p e s m args below meth c H locs ls F hP hS hl
  exact va_tc F.1 F.2.1 F.2.2.2.2.2.2.2.2.2.2.2.2 hS h.1 rfl hd (h.2 p e s m args below meth c H locs ls F hP hS hl)
/-- System.arraycopy -/
def k_LC (own : String) (idx : Nat) : Prop := Cond.methodLink own idx arraycopyName ∈ k_gw ∧ Cond.native arraycopyName ∈ k_gw ∧ Cond.static arraycopyName ∈ k_gw ∧ Cond.initialized "java/lang/System" ∈ k_gw
theorem wp_copy {idx a0 a n0 n1 : Nat} {sp dp n : Int32} (hd : decode M.2.1 pc = .ok (.invokestatic idx, 3)) (hL : k_LC M.1.cls idx) (hs0 : S[a0]? = some (.inl n0)) (hs1 : S[a]? = some (.inl n1)) (hst : (st.map fun v => v.category).sum ≤ 8) (h : (¬ sp < 0 ∧ ¬ dp < 0 ∧ ¬ n < 0 ∧ sp.toNatClampNeg + n.toNatClampNeg ≤ n0 ∧ dp.toNatClampNeg + n.toNatClampNeg ≤ n1) ∧ WP E S M d (pc + 3) Lo st (k_put σ a (va_cpy (σ a0) (σ a) sp.toNatClampNeg dp.toNatClampNeg n.toNatClampNeg)) Q) : WP E S M d pc Lo (.int n :: .int dp :: .ref a :: .int sp :: .ref a0 :: st) σ Q := by
  intro p e s m args below meth c H locs ls F hP hS hl
  obtain ⟨g1, g2, g3, g4, g5⟩ := h.1
  refine va_copyi (D := E.2.1) (ty := .int) F.1 F.2.1 (F.2.2.1.trans hl.1.symm) F.2.2.2.2.2.1 (k_Alike F hL.1) (k_Alike F hL.2.1) (k_Alike F hL.2.2.1) (k_Alike F hL.2.2.2) F.2.2.2.2.2.2.2.1 hP (k_wD F.2.2.2.2.2.2.2.2.1) hS a0 a 0 0 (k_cell_a hs0) (k_cell_a hs1) rfl rfl rfl g1 g2 g3 g4 g5 (fun _ _ => rfl) (Nat.succ_le_succ (Nat.zero_le _)) ?_ hd (fun H1 locs1 hP1 hD1 hS1 => ?_)
  · rw [k_cats]
    have e9 : nativeFrameWords "java/lang/System" "arraycopy" 5 = 7 := by decide +kernel
    rw [e9]
    show _ ≤ 40 * (d + 1) + 20
    omega
  · refine h.2 p e s m args below meth c H1 locs1 ls F ?_ hS1 hl
    have e1 := k_w_set (E := E) (σ := σ) hs1 (va_cpy (σ a0) (σ a) sp.toNatClampNeg dp.toNatClampNeg n.toNatClampNeg)
    rw [← e1]
    exact hP1
/-- switches: one place of the table, or none -/
theorem wp_tswIn {dflt lo hi off : Int} {offs : Array Int} {len tgt : Nat} {x : Int32} (hd : decode M.2.1 pc = .ok (.tableswitch dflt lo hi offs, len)) (h1 : ¬ x.toInt < lo) (h2 : ¬ hi < x.toInt) (ho : offs[(x.toInt - lo).toNat]? = some off) (ht : (pc : Int) + off = (tgt : Int)) (h : WP E S M d tgt Lo st σ Q) : WP E S M d pc Lo (.int x :: st) σ Q := by
  intro p e s m args below meth c H locs ls F hP hS hl
  exact lv_tableIn F.1 F.2.1 hd h1 h2 ho ht (h p e s m args below meth c H locs ls F hP hS hl)
theorem wp_tswOut {dflt lo hi : Int} {offs : Array Int} {len tgt : Nat} {x : Int32} (hd : decode M.2.1 pc = .ok (.tableswitch dflt lo hi offs, len)) (h1 : x.toInt < lo ∨ hi < x.toInt) (ht : (pc : Int) + dflt = (tgt : Int)) (h : WP E S M d tgt Lo st σ Q) : WP E S M d pc Lo (.int x :: st) σ Q := by
  intro p e s m args below meth c H locs ls F hP hS hl
  exact lv_tableOut F.1 F.2.1 hd h1 ht (h p e s m args below meth c H locs ls F hP hS hl)
theorem wp_lsw {dflt off : Int} {ps : Array (Int × Int)} {len tgt : Nat} {x : Int32} (hd : decode M.2.1 pc = .ok (.lookupswitch dflt ps, len)) (hp : (ps.toList.zip (ps.toList.drop 1)).all (fun (a, next) => a.1 < next.1) = true) (ho : Op.lookupswitch.offset ps.toList dflt x.toInt = off) (ht : (pc : Int) + off = (tgt : Int)) (h : WP E S M d tgt Lo st σ Q) : WP E S M d pc Lo (.int x :: st) σ Q := by
  intro p e s m args below meth c H locs ls F hP hS hl
  exact lv_lookup F.1 F.2.1 hd hp ho ht (h p e s m args below meth c H locs ls F hP hS hl)
/-- ends -/
theorem wp_ireturn {v : Int32} (hd : decode M.2.1 pc = .ok (.ireturn, 1)) (hr : M.2.2.2 = some .int) (h : Q (some (.int v)) σ) : WP E S M d pc Lo [.int v] σ Q := by
  intro p e s m args below meth c H locs ls F hP hS hl
  refine W.iret F.1 F.2.1 (F.2.2.2.1.trans hr) (fun t ht hW => ⟨⟨some (.int v), σ, rfl, h, ?_⟩, hS.F ht⟩) hS.2.2 hd F.2.2.2.2.1
  exact ⟨by rw [ht]; exact hP, F.2.2.2.2.2.2.2.1.moved hW.alike, k_wD F.2.2.2.2.2.2.2.2.1, by rw [ht]; exact (F.2.2.2.2.2.2.2.2.2.kept hS.2.1).moved hW.alike⟩
theorem wp_zreturn {v : Int32} (hd : decode M.2.1 pc = .ok (.ireturn, 1)) (hr : M.2.2.2 = some .boolean) (h : narrow .boolean (.int v) = .int v ∧ Q (some (.int v)) σ) : WP E S M d pc Lo [.int v] σ Q := by
  intro p e s m args below meth c H locs ls F hP hS hl
  refine W.zret F.1 F.2.1 (F.2.2.2.1.trans hr) h.1 (fun t ht hW => ⟨⟨some (.int v), σ, rfl, h.2, ?_⟩, hS.F ht⟩) hS.2.2 hd F.2.2.2.2.1
  exact ⟨by rw [ht]; exact hP, F.2.2.2.2.2.2.2.1.moved hW.alike, k_wD F.2.2.2.2.2.2.2.2.1, by rw [ht]; exact (F.2.2.2.2.2.2.2.2.2.kept hS.2.1).moved hW.alike⟩
theorem wp_return (hd : decode M.2.1 pc = .ok (.return_, 1)) (hr : M.2.2.2 = none) (h : Q none σ) : WP E S M d pc Lo [] σ Q := by
  intro p e s m args below meth c H locs ls F hP hS hl
  refine W.vret F.1 F.2.1 (F.2.2.2.1.trans hr) (fun t ht hW => ⟨⟨none, σ, rfl, h, ?_⟩, hS.F ht⟩) hS.2.2 hd F.2.2.2.2.1
  exact ⟨by rw [ht]; exact hP, F.2.2.2.2.2.2.2.1.moved hW.alike, k_wD F.2.2.2.2.2.2.2.2.1, by rw [ht]; exact (F.2.2.2.2.2.2.2.2.2.kept hS.2.1).moved hW.alike⟩
theorem wp_areturn {j : Nat} {C : String} (hd : decode M.2.1 pc = .ok (.areturn, 1)) (hr : M.2.2.2 = some (.object C)) (h : Q (some (.ref j)) σ) : WP E S M d pc Lo [.ref j] σ Q := by
  intro p e s m args below meth c H locs ls F hP hS hl
  refine W.aret F.1 F.2.1 (F.2.2.2.1.trans hr) (Or.inl ⟨_, rfl⟩) (Or.inr ⟨_, rfl⟩) (fun t ht hW => ⟨⟨some (.ref j), σ, rfl, h, ?_⟩, hS.F ht⟩) hS.2.2 hd F.2.2.2.2.1
  exact ⟨by rw [ht]; exact hP, F.2.2.2.2.2.2.2.1.moved hW.alike, k_wD F.2.2.2.2.2.2.2.2.1, by rw [ht]; exact (F.2.2.2.2.2.2.2.2.2.kept hS.2.1).moved hW.alike⟩
/-- calls: what the tables say of a method -/
def k_mI (M : KM) (n : Nat) : Prop := Cond.code M.1 M.2.1 M.2.2.1 M.2.2.2 ∈ k_gw ∧ Cond.initialized M.1.cls ∈ k_gw ∧ (M.1.cls ≠ "java/lang/invoke/MethodHandle" ∧ M.1.cls ≠ "java/lang/invoke/VarHandle" ∧ (parseMethodDescriptor M.1.desc).map (fun d => d.parameters.length) = some n) ∧ M.2.2.1 ≤ 21
def k_mV (M : KM) (n : Nat) : Prop := k_mI M n ∧ Cond.instanceMethod M.1 ∈ k_gw ∧ Cond.selects M.1.cls M.1 M.1 ∈ k_gw
def k_mS (M : KM) (n : Nat) : Prop := k_mI M n ∧ Cond.static M.1 ∈ k_gw
theorem k_good {M' : KM} (h : Cond.code M'.1 M'.2.1 M'.2.2.1 M'.2.2.2 ∈ k_gw) : GoodIn (k_ws M) (k_ws M') := by
  intro w hw
  rcases List.mem_cons.mp hw with rfl | hw
  · exact ⟨List.mem_cons_of_mem _ h, good_of_word (List.mem_filter.mp h).2⟩
  · exact ⟨List.mem_cons_of_mem _ hw, good_of_word (List.mem_filter.mp hw).2⟩
theorem k_blind {vs : List Value} {τ : Sg} : FrameBlind (k_Pc E S vs τ) := by
  rintro a U g mk ⟨q0, qP, qK, qD, qS⟩
  exact ⟨q0, qP, va_K.moved (u := U) (U := U.calling g mk a) (Vm.Alike.refl U.vm) qK, qD, k_stat.moved (u := U) (U := U.calling g mk a) (Vm.Alike.refl U.vm) qS⟩
theorem k_callB {R : Room} {s : State} {args : Array Value} {idx n : Nat} {M' : KM} (hts : ∀ w ∈ k_ws M, w.before args s = true) (hm : k_mI M' n) (hl : Cond.methodLink M.1.cls idx M'.1 ∈ k_gw) (hR : R = k_rm (d + 1)) : CallB R s args M.1.cls idx M'.1 M'.2.1 M'.2.2.1 M'.2.2.2 (k_ws M') (k_rm d) 0 0 n := by
  subst hR
  refine callB_of n hts (k_good hm.1) rfl rfl rfl (hts _ (List.mem_cons_of_mem _ hm.2.1)) (hts _ (List.mem_cons_of_mem _ hl)) hm.2.2.1 ⟨Nat.le_refl _, ?_⟩
  have := hm.2.2.2
  show 8 + (M'.2.2.1 + 11) + (40 * (d + 1) + 20) ≤ 40 * (d + 1 + 1) + 20
  omega
theorem k_pre {M' : KM} {s : State} {H : Heap} {locs : List Loc} {vs : List Value} {p : Program} {m : MethodId} {args : Array Value} {meth : Method} {c : Code} (F : k_F E S M p s m args meth c) (hP : va_P E.2.1 vwCl (k_w E S σ) H) (hS : va_S (k_A E S) s.heap H locs) : ∀ U : State, U.heap = H → s.WarmedH U.vm → k_B E S σ U := by
  intro U hU hW
  exact ⟨by rw [hU]; exact hP, F.2.2.2.2.2.2.2.1.moved hW.alike, k_wD F.2.2.2.2.2.2.2.2.1, by rw [hU]; exact (F.2.2.2.2.2.2.2.2.2.kept hS.2.1).moved hW.alike⟩
/-- behind a call, whatever it answers -/
theorem k_after {p : Program} {e : Env} {s : State} {m : MethodId} {args : Array Value} {below : List Frame} {meth : Method} {c : Code} {H : Heap} {locs : List Loc} {ls : Array Slot} {rest : List Value} {st0 : List Value} {a : Array Value} {Q' : Option Value → Sg → Prop} {pc0 : Nat}
    (F : k_F E S M p s m args meth c) (hS : va_S (k_A E S) s.heap H locs) (hl : lv_has ls M.2.2.1 (k_as E.2.2.1 Lo))
    (hr : va_Run p E.1 e (k_rm (d + 1)) s m args below meth c H locs 0 0 0 0 (F0 m pc0 ls st0) (rest.map (k_cv E.2.2.1)) (k_Qc E S Q' a) (k_A E S))
    (h : ∀ v σ', Q' v σ' → WP E S M (d + 1) (pc0 + 3) Lo (v.toList ++ rest) σ' Q) :
    W p E.1 e (k_rm (d + 1)) s m args below meth c H locs 0 0 (MQ below (k_Qc E S Q) args s 0 0 (k_A E S)) (F0 m pc0 ls st0) := by
  intro T hT X
  obtain ⟨v, st₀, t, T', L, h0, X', hL, e1, e2, ⟨⟨v', σ', hv, hq, hB⟩, hz, hk⟩, st⟩ := hr T hT X
  have hv' : v = v'.map (k_cv E.2.2.1) := by cases hv; rfl
  rw [h0] at hz hk
  have hP1 : va_P E.2.1 vwCl (k_w E S σ') T'.heap := by rw [e1]; exact hB.1
  have hS1 : va_S (k_A E S) s.heap T'.heap (locs ++ L) := ⟨Nat.le_trans hS.1 (by rw [e1]; exact hz), fun q h1 h2 => by rw [e1, hk q (Nat.lt_of_lt_of_le h1 hS.1) h2]; exact hS.2.1 q h1 h2, fun q hq => by
      rcases List.mem_append.mp hq with h | h
      · exact hS.2.2 q h
      · exact hL q h⟩
  have := h v' σ' hq p e s m args below meth c T'.heap (locs ++ L) ls F hP1 hS1 hl
  have est : (v'.toList ++ rest).map (k_cv E.2.2.1) = v.toList ++ rest.map (k_cv E.2.2.1) := by
    rw [hv']
    cases v' <;> simp
  rw [est] at this
  obtain ⟨t2, a1, b1⟩ := this T' rfl X'
  exact ⟨t2, st t2 a1, b1⟩
theorem wp_callV {M' : KM} {b ci idx n : Nat} {fs : List (Option Nat)} {vs rest : List Value} {T : u_T} {N : Nat} (hd : decode M.2.1 pc = .ok (.invokevirtual idx, 3)) (hm : k_mV M' n) (hl : Cond.methodLink M.1.cls idx M'.1 ∈ k_gw) (hs : S[b]? = some (.inr (ci, fs))) (hc : vwCl[ci]? = some (M'.1.cls, T, N)) (hn : vs.length = n) (hst : vs.reverse ++ .ref b :: rest = st) (hw : (rest.map fun v => v.category).sum ≤ 8)
    (h : Call E S d M' (.ref b :: vs) σ (fun v σ' => WP E S M (d + 1) (pc + 3) Lo (v.toList ++ rest) σ' Q)) : WP E S M (d + 1) pc Lo st σ Q := by
  subst hst
  intro p e s m args below meth c H locs ls F hP hS hlo
  have cw : CallW (k_rm (d + 1)) s args M.1.cls M'.1.cls idx M'.1 M'.2.1 M'.2.2.1 M'.2.2.2 (k_ws M') (k_rm d) 0 0 n := ⟨k_callB F.2.2.2.2.2.2.1 hm.1 hl rfl, k_Alike F hm.2.1, k_Alike F hm.2.2⟩
  obtain ⟨r, hr1, cell, q1, q2, q3, q4⟩ := hP b _ (k_cell_o hs)
  have hrr : r = (M'.1.cls, T, N) := Option.some.inj (hr1.symm.trans hc)
  subst hrr
  obtain ⟨hSl, hfc, kC, hkC, hkind⟩ := F.2.2.2.2.2.2.2.1.1 ci _ hc
  have run := va_runV (As := vs.map (k_cv E.2.2.1)) (rest := rest.map (k_cv E.2.2.1)) (b := E.2.2.1 b) (g := F0 m pc ls ((vs.reverse ++ .ref b :: rest).map (k_cv E.2.2.1))) (cells := 0) (slots := 0) (e := e) (below := below) (locs := locs)
    (meth := meth) (H := H) ⟨F.1, F.2.1, F.2.2.1, F.2.2.2.2.2.1, F.2.2.2.2.2.2.1⟩ h cw ⟨k_blind, ⟨cell, q1, by rw [q3]; rfl, by rw [q2]; exact hfc⟩, fun U hU hW => ⟨rfl, k_pre (M' := M') (vs := vs) F hP hS U hU hW⟩⟩ rfl (by rw [List.length_map]; exact hn) hlo.1 (by simp [k_cv]) (by show 2 * 0 + _ ≤ 8; rw [k_cats]; omega) hd ⟨Nat.zero_le _, Nat.zero_le _⟩
  exact k_after F hS hlo run (fun v σ' q => q)
theorem wp_callS {M' : KM} {idx n : Nat} {vs rest : List Value} (hd : decode M.2.1 pc = .ok (.invokestatic idx, 3)) (hm : k_mS M' n) (hl : Cond.methodLink M.1.cls idx M'.1 ∈ k_gw) (hn : vs.length = n) (hst : vs.reverse ++ rest = st) (hw : (rest.map fun v => v.category).sum ≤ 8)
    (h : Call E S d M' vs σ (fun v σ' => WP E S M (d + 1) (pc + 3) Lo (v.toList ++ rest) σ' Q)) : WP E S M (d + 1) pc Lo st σ Q := by
  subst hst
  intro p e s m args below meth c H locs ls F hP hS hlo
  have run := va_runS (As := vs.map (k_cv E.2.2.1)) (rest := rest.map (k_cv E.2.2.1)) (g := F0 m pc ls ((vs.reverse ++ rest).map (k_cv E.2.2.1))) (cells := 0) (slots := 0) (e := e) (below := below) (locs := locs)
    (meth := meth) (H := H) ⟨F.1, F.2.1, F.2.2.1, F.2.2.2.2.2.1, F.2.2.2.2.2.2.1⟩ h ⟨k_callB F.2.2.2.2.2.2.1 hm.1 hl rfl, k_Alike F hm.2⟩ ⟨k_blind, fun U hU hW => ⟨rfl, k_pre (M' := M') (vs := vs) F hP hS U hU hW⟩⟩ rfl (by rw [List.length_map]; exact hn) hlo.1 (by simp) (by show 2 * 0 + _ ≤ 8; rw [k_cats]; omega) hd ⟨Nat.zero_le _, Nat.zero_le _⟩
  exact k_after F hS hlo run (fun v σ' q => q)
end R2

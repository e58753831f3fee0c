theorem k_stored_aux : True := trivial
/-- no long stands ahead of the place -/
def k_sok (Lo : List (Option Value)) (i : Nat) : Bool := Lo.zipIdx.all (fun q => match q.1 with
  | some (.long _) => !(q.2 + 1 == i)
  | some (.double _) => !(q.2 + 1 == i)
  | _ => true)
theorem k_stored {ad : Nat → Nat} {Lo : List (Option Value)} {i n : Nat} {v : Value} {ls ls' : Array Slot} (hl : lv_has ls n (k_as ad Lo)) (hok : k_sok Lo i = true) (hl' : lv_has ls' n ((i, k_cv ad v) :: (k_as ad Lo).filter (fun q => !(q.1 == i) && !(q.1 + 1 == i && q.2.category == 2)))) : lv_has ls' n (k_as ad (Lo.set i (some v))) := by
  refine ⟨hl'.1, hl'.2.1, fun q hq => hl'.2.2 q ?_⟩
  obtain ⟨j, w⟩ := q
  obtain ⟨u, h1, h2⟩ := k_as_mem.mp hq
  subst h2
  by_cases hj : i = j
  · subst hj
    rw [List.getElem?_set] at h1
    rw [if_pos rfl] at h1
    split at h1
    · cases h1; exact List.mem_cons_self
    · cases h1
  · rw [List.getElem?_set, if_neg hj] at h1
    refine List.mem_cons_of_mem _ (List.mem_filter.mpr ⟨k_as_mem.mpr ⟨_, h1, rfl⟩, ?_⟩)
    have hji : ¬ j = i := fun q => hj q.symm
    have h3 := List.all_eq_true.mp hok (some u, j) (List.mem_zipIdx_iff_getElem?.mpr h1)
    simp only [k_cv_cat]
    cases u <;> simp_all [Value.category]
theorem k_Alike {E : KE} {S : Shp} {M : KM} {p : Program} {s : State} {m : MethodId} {args : Array Value} {meth : Method} {c : Code} (F : k_F E S M p s m args meth c) {w : Cond} (hw : w ∈ k_gw) : w.before args s = true := F.2.2.2.2.2.2.1 _ (List.mem_cons_of_mem _ hw)
theorem wp_iconst {E : KE} {S : Shp} {M : KM} {d pc : Nat} {Lo : List (Option Value)} {st : List Value} {σ : Sg} {Q : Option Value → Sg → Prop} {n : Int} {v : Int32} (hd : decode M.2.1 pc = .ok (.iconst n, 1)) (hv : Int32.ofInt n = v) (h : WP E S M d (pc + 1) Lo (.int v :: st) σ Q) : WP E S M d pc Lo st σ Q := by
  intro p e s m args below meth c H locs ls F hP hS hl
  exact lv_iconst F.1 F.2.1 hd hv (h p e s m args below meth c H locs ls F hP hS hl)
theorem wp_bipush {E : KE} {S : Shp} {M : KM} {d pc : Nat} {Lo : List (Option Value)} {st : List Value} {σ : Sg} {Q : Option Value → Sg → Prop} {n : Int} {v : Int32} (hd : decode M.2.1 pc = .ok (.bipush n, 2)) (hv : (Int8.ofInt n).toInt32 = v) (h : WP E S M d (pc + 2) Lo (.int v :: st) σ Q) : WP E S M d pc Lo st σ Q := by
  intro p e s m args below meth c H locs ls F hP hS hl
  exact lv_bipush F.1 F.2.1 hd hv (h p e s m args below meth c H locs ls F hP hS hl)
theorem wp_sipush {E : KE} {S : Shp} {M : KM} {d pc : Nat} {Lo : List (Option Value)} {st : List Value} {σ : Sg} {Q : Option Value → Sg → Prop} {n : Int} {v : Int32} (hd : decode M.2.1 pc = .ok (.sipush n, 3)) (hv : (Int16.ofInt n).toInt32 = v) (h : WP E S M d (pc + 3) Lo (.int v :: st) σ Q) : WP E S M d pc Lo st σ Q := by
  intro p e s m args below meth c H locs ls F hP hS hl
  exact lv_sipush F.1 F.2.1 hd hv (h p e s m args below meth c H locs ls F hP hS hl)
theorem wp_iload_n {E : KE} {S : Shp} {M : KM} {d pc : Nat} {Lo : List (Option Value)} {st : List Value} {σ : Sg} {Q : Option Value → Sg → Prop} {k : Fin 4} {i : Nat} {x : Int32} (hd : decode M.2.1 pc = .ok (.iload_n k, 1)) (hi : (k : Nat) = i) (hx : Lo[i]? = some (some (.int x))) (h : WP E S M d (pc + 1) Lo (.int x :: st) σ Q) : WP E S M d pc Lo st σ Q := by
  intro p e s m args below meth c H locs ls F hP hS hl
  exact lv_iload_n F.1 F.2.1 hd hi (hl.2.2 _ (k_as_mem.mpr ⟨_, hx, rfl⟩)) (h p e s m args below meth c H locs ls F hP hS hl)
theorem wp_iload {E : KE} {S : Shp} {M : KM} {d pc : Nat} {Lo : List (Option Value)} {st : List Value} {σ : Sg} {Q : Option Value → Sg → Prop} {i : Nat} {x : Int32} (hd : decode M.2.1 pc = .ok (.iload i, 2)) (hx : Lo[i]? = some (some (.int x))) (h : WP E S M d (pc + 2) Lo (.int x :: st) σ Q) : WP E S M d pc Lo st σ Q := by
  intro p e s m args below meth c H locs ls F hP hS hl
  exact lv_iload F.1 F.2.1 hd (hl.2.2 _ (k_as_mem.mpr ⟨_, hx, rfl⟩)) (h p e s m args below meth c H locs ls F hP hS hl)
theorem wp_lload_n {E : KE} {S : Shp} {M : KM} {d pc : Nat} {Lo : List (Option Value)} {st : List Value} {σ : Sg} {Q : Option Value → Sg → Prop} {k : Fin 4} {i : Nat} {x : Int64} (hd : decode M.2.1 pc = .ok (.lload_n k, 1)) (hi : (k : Nat) = i) (hx : Lo[i]? = some (some (.long x))) (h : WP E S M d (pc + 1) Lo (.long x :: st) σ Q) : WP E S M d pc Lo st σ Q := by
  intro p e s m args below meth c H locs ls F hP hS hl
  exact lv_lload_n F.1 F.2.1 hd hi (hl.2.2 _ (k_as_mem.mpr ⟨_, hx, rfl⟩)) (h p e s m args below meth c H locs ls F hP hS hl)
theorem wp_lload {E : KE} {S : Shp} {M : KM} {d pc : Nat} {Lo : List (Option Value)} {st : List Value} {σ : Sg} {Q : Option Value → Sg → Prop} {i : Nat} {x : Int64} (hd : decode M.2.1 pc = .ok (.lload i, 2)) (hx : Lo[i]? = some (some (.long x))) (h : WP E S M d (pc + 2) Lo (.long x :: st) σ Q) : WP E S M d pc Lo st σ Q := by
  intro p e s m args below meth c H locs ls F hP hS hl
  exact lv_lload F.1 F.2.1 hd (hl.2.2 _ (k_as_mem.mpr ⟨_, hx, rfl⟩)) (h p e s m args below meth c H locs ls F hP hS hl)
theorem wp_aload_n {E : KE} {S : Shp} {M : KM} {d pc : Nat} {Lo : List (Option Value)} {st : List Value} {σ : Sg} {Q : Option Value → Sg → Prop} {k : Fin 4} {i : Nat} {x : Nat} (hd : decode M.2.1 pc = .ok (.aload_n k, 1)) (hi : (k : Nat) = i) (hx : Lo[i]? = some (some (.ref x))) (h : WP E S M d (pc + 1) Lo (.ref x :: st) σ Q) : WP E S M d pc Lo st σ Q := by
  intro p e s m args below meth c H locs ls F hP hS hl
  exact lv_aload_n F.1 F.2.1 hd hi (hl.2.2 _ (k_as_mem.mpr ⟨_, hx, rfl⟩)) (h p e s m args below meth c H locs ls F hP hS hl)
theorem wp_aload {E : KE} {S : Shp} {M : KM} {d pc : Nat} {Lo : List (Option Value)} {st : List Value} {σ : Sg} {Q : Option Value → Sg → Prop} {i : Nat} {x : Nat} (hd : decode M.2.1 pc = .ok (.aload i, 2)) (hx : Lo[i]? = some (some (.ref x))) (h : WP E S M d (pc + 2) Lo (.ref x :: st) σ Q) : WP E S M d pc Lo st σ Q := by
  intro p e s m args below meth c H locs ls F hP hS hl
  exact lv_aload F.1 F.2.1 hd (hl.2.2 _ (k_as_mem.mpr ⟨_, hx, rfl⟩)) (h p e s m args below meth c H locs ls F hP hS hl)
theorem wp_istore_n {E : KE} {S : Shp} {M : KM} {d pc : Nat} {Lo : List (Option Value)} {st : List Value} {σ : Sg} {Q : Option Value → Sg → Prop} {k : Fin 4} {i : Nat} {x : Int32} {Lo' : List (Option Value)} (hd : decode M.2.1 pc = .ok (.istore_n k, 1)) (hi : (k : Nat) = i) (hn : i < M.2.2.1) (hok : k_sok Lo i = true) (hLo : Lo.set i (some (.int x)) = Lo') (h : WP E S M d (pc + 1) Lo' st σ Q) : WP E S M d pc Lo (.int x :: st) σ Q := by
  intro p e s m args below meth c H locs ls F hP hS hl
  exact lv_istore_n F.1 F.2.1 hd hi hl hn rfl (fun ls' hl' => h p e s m args below meth c H locs ls' F hP hS (hLo ▸ k_stored (v := .int x) hl hok hl'))
theorem wp_istore {E : KE} {S : Shp} {M : KM} {d pc : Nat} {Lo : List (Option Value)} {st : List Value} {σ : Sg} {Q : Option Value → Sg → Prop} {i : Nat} {x : Int32} {Lo' : List (Option Value)} (hd : decode M.2.1 pc = .ok (.istore i, 2)) (hn : i < M.2.2.1) (hok : k_sok Lo i = true) (hLo : Lo.set i (some (.int x)) = Lo') (h : WP E S M d (pc + 2) Lo' st σ Q) : WP E S M d pc Lo (.int x :: st) σ Q := by
  intro p e s m args below meth c H locs ls F hP hS hl
  exact lv_istore F.1 F.2.1 hd hl hn rfl (fun ls' hl' => h p e s m args below meth c H locs ls' F hP hS (hLo ▸ k_stored (v := .int x) hl hok hl'))
theorem wp_astore_n {E : KE} {S : Shp} {M : KM} {d pc : Nat} {Lo : List (Option Value)} {st : List Value} {σ : Sg} {Q : Option Value → Sg → Prop} {k : Fin 4} {i : Nat} {x : Nat} {Lo' : List (Option Value)} (hd : decode M.2.1 pc = .ok (.astore_n k, 1)) (hi : (k : Nat) = i) (hn : i < M.2.2.1) (hok : k_sok Lo i = true) (hLo : Lo.set i (some (.ref x)) = Lo') (h : WP E S M d (pc + 1) Lo' st σ Q) : WP E S M d pc Lo (.ref x :: st) σ Q := by
  intro p e s m args below meth c H locs ls F hP hS hl
  exact lv_astore_n F.1 F.2.1 hd hi hl hn rfl (fun ls' hl' => h p e s m args below meth c H locs ls' F hP hS (hLo ▸ k_stored (v := .ref x) hl hok hl'))
theorem wp_astore {E : KE} {S : Shp} {M : KM} {d pc : Nat} {Lo : List (Option Value)} {st : List Value} {σ : Sg} {Q : Option Value → Sg → Prop} {i : Nat} {x : Nat} {Lo' : List (Option Value)} (hd : decode M.2.1 pc = .ok (.astore i, 2)) (hn : i < M.2.2.1) (hok : k_sok Lo i = true) (hLo : Lo.set i (some (.ref x)) = Lo') (h : WP E S M d (pc + 2) Lo' st σ Q) : WP E S M d pc Lo (.ref x :: st) σ Q := by
  intro p e s m args below meth c H locs ls F hP hS hl
  exact lv_astore F.1 F.2.1 hd hl hn rfl (fun ls' hl' => h p e s m args below meth c H locs ls' F hP hS (hLo ▸ k_stored (v := .ref x) hl hok hl'))
theorem wp_iinc {E : KE} {S : Shp} {M : KM} {d pc : Nat} {Lo : List (Option Value)} {st : List Value} {σ : Sg} {Q : Option Value → Sg → Prop} {i : Nat} {n : Int} {x v : Int32} {Lo' : List (Option Value)} (hd : decode M.2.1 pc = .ok (.iinc i n, 3)) (hx : Lo[i]? = some (some (.int x))) (hv : x + Int32.ofInt n = v) (hn : i < M.2.2.1) (hok : k_sok Lo i = true) (hLo : Lo.set i (some (.int v)) = Lo') (h : WP E S M d (pc + 3) Lo' st σ Q) : WP E S M d pc Lo st σ Q := by
  intro p e s m args below meth c H locs ls F hP hS hl
  obtain ⟨k, hk⟩ := List.getElem?_of_mem (k_as_mem.mpr ⟨_, hx, rfl⟩ : (i, Value.int x) ∈ k_as E.2.2.1 Lo)
  exact lv_iinc F.1 F.2.1 hd hl hk hv hn rfl (fun ls' hl' => h p e s m args below meth c H locs ls' F hP hS (hLo ▸ k_stored (v := .int v) hl hok hl'))
theorem wp_iadd {E : KE} {S : Shp} {M : KM} {d pc : Nat} {Lo : List (Option Value)} {st : List Value} {σ : Sg} {Q : Option Value → Sg → Prop} {x y : Int32} (hd : decode M.2.1 pc = .ok (.iadd, 1)) (h : WP E S M d (pc + 1) Lo (.int (x + y) :: st) σ Q) : WP E S M d pc Lo (.int y :: .int x :: st) σ Q := by
  intro p e s m args below meth c H locs ls F hP hS hl
  exact lv_iadd F.1 F.2.1 hd (h p e s m args below meth c H locs ls F hP hS hl)
theorem wp_isub {E : KE} {S : Shp} {M : KM} {d pc : Nat} {Lo : List (Option Value)} {st : List Value} {σ : Sg} {Q : Option Value → Sg → Prop} {x y : Int32} (hd : decode M.2.1 pc = .ok (.isub, 1)) (h : WP E S M d (pc + 1) Lo (.int (x - y) :: st) σ Q) : WP E S M d pc Lo (.int y :: .int x :: st) σ Q := by
  intro p e s m args below meth c H locs ls F hP hS hl
  exact lv_isub F.1 F.2.1 hd (h p e s m args below meth c H locs ls F hP hS hl)
theorem wp_imul {E : KE} {S : Shp} {M : KM} {d pc : Nat} {Lo : List (Option Value)} {st : List Value} {σ : Sg} {Q : Option Value → Sg → Prop} {x y : Int32} (hd : decode M.2.1 pc = .ok (.imul, 1)) (h : WP E S M d (pc + 1) Lo (.int (x * y) :: st) σ Q) : WP E S M d pc Lo (.int y :: .int x :: st) σ Q := by
  intro p e s m args below meth c H locs ls F hP hS hl
  exact lv_imul F.1 F.2.1 hd (h p e s m args below meth c H locs ls F hP hS hl)
theorem wp_iand {E : KE} {S : Shp} {M : KM} {d pc : Nat} {Lo : List (Option Value)} {st : List Value} {σ : Sg} {Q : Option Value → Sg → Prop} {x y : Int32} (hd : decode M.2.1 pc = .ok (.iand, 1)) (h : WP E S M d (pc + 1) Lo (.int (x &&& y) :: st) σ Q) : WP E S M d pc Lo (.int y :: .int x :: st) σ Q := by
  intro p e s m args below meth c H locs ls F hP hS hl
  exact lv_iand F.1 F.2.1 hd (h p e s m args below meth c H locs ls F hP hS hl)
theorem wp_ior {E : KE} {S : Shp} {M : KM} {d pc : Nat} {Lo : List (Option Value)} {st : List Value} {σ : Sg} {Q : Option Value → Sg → Prop} {x y : Int32} (hd : decode M.2.1 pc = .ok (.ior, 1)) (h : WP E S M d (pc + 1) Lo (.int (x ||| y) :: st) σ Q) : WP E S M d pc Lo (.int y :: .int x :: st) σ Q := by
  intro p e s m args below meth c H locs ls F hP hS hl
  exact lv_ior F.1 F.2.1 hd (h p e s m args below meth c H locs ls F hP hS hl)
theorem wp_ixor {E : KE} {S : Shp} {M : KM} {d pc : Nat} {Lo : List (Option Value)} {st : List Value} {σ : Sg} {Q : Option Value → Sg → Prop} {x y : Int32} (hd : decode M.2.1 pc = .ok (.ixor, 1)) (h : WP E S M d (pc + 1) Lo (.int (x ^^^ y) :: st) σ Q) : WP E S M d pc Lo (.int y :: .int x :: st) σ Q := by
  intro p e s m args below meth c H locs ls F hP hS hl
  exact lv_ixor F.1 F.2.1 hd (h p e s m args below meth c H locs ls F hP hS hl)
theorem wp_ishl {E : KE} {S : Shp} {M : KM} {d pc : Nat} {Lo : List (Option Value)} {st : List Value} {σ : Sg} {Q : Option Value → Sg → Prop} {x y : Int32} (hd : decode M.2.1 pc = .ok (.ishl, 1)) (h : WP E S M d (pc + 1) Lo (.int (x <<< (y &&& 31)) :: st) σ Q) : WP E S M d pc Lo (.int y :: .int x :: st) σ Q := by
  intro p e s m args below meth c H locs ls F hP hS hl
  exact lv_ishl F.1 F.2.1 hd (h p e s m args below meth c H locs ls F hP hS hl)
theorem wp_ishr {E : KE} {S : Shp} {M : KM} {d pc : Nat} {Lo : List (Option Value)} {st : List Value} {σ : Sg} {Q : Option Value → Sg → Prop} {x y : Int32} (hd : decode M.2.1 pc = .ok (.ishr, 1)) (h : WP E S M d (pc + 1) Lo (.int (x >>> (y &&& 31)) :: st) σ Q) : WP E S M d pc Lo (.int y :: .int x :: st) σ Q := by
  intro p e s m args below meth c H locs ls F hP hS hl
  exact lv_ishr F.1 F.2.1 hd (h p e s m args below meth c H locs ls F hP hS hl)
theorem wp_land {E : KE} {S : Shp} {M : KM} {d pc : Nat} {Lo : List (Option Value)} {st : List Value} {σ : Sg} {Q : Option Value → Sg → Prop} {x y : Int64} (hd : decode M.2.1 pc = .ok (.land, 1)) (h : WP E S M d (pc + 1) Lo (.long (x &&& y) :: st) σ Q) : WP E S M d pc Lo (.long y :: .long x :: st) σ Q := by
  intro p e s m args below meth c H locs ls F hP hS hl
  exact lv_land F.1 F.2.1 hd (h p e s m args below meth c H locs ls F hP hS hl)
theorem wp_lor {E : KE} {S : Shp} {M : KM} {d pc : Nat} {Lo : List (Option Value)} {st : List Value} {σ : Sg} {Q : Option Value → Sg → Prop} {x y : Int64} (hd : decode M.2.1 pc = .ok (.lor, 1)) (h : WP E S M d (pc + 1) Lo (.long (x ||| y) :: st) σ Q) : WP E S M d pc Lo (.long y :: .long x :: st) σ Q := by
  intro p e s m args below meth c H locs ls F hP hS hl
  exact lv_lor F.1 F.2.1 hd (h p e s m args below meth c H locs ls F hP hS hl)
theorem wp_idiv {E : KE} {S : Shp} {M : KM} {d pc : Nat} {Lo : List (Option Value)} {st : List Value} {σ : Sg} {Q : Option Value → Sg → Prop} {x y : Int32} (hd : decode M.2.1 pc = .ok (.idiv, 1)) (h : ¬ y = 0 ∧ WP E S M d (pc + 1) Lo (.int (x / y) :: st) σ Q) : WP E S M d pc Lo (.int y :: .int x :: st) σ Q := by
  intro p e s m args below meth c H locs ls F hP hS hl
  exact lv_idiv F.1 F.2.1 hd h.1 (h.2 p e s m args below meth c H locs ls F hP hS hl)
theorem wp_irem {E : KE} {S : Shp} {M : KM} {d pc : Nat} {Lo : List (Option Value)} {st : List Value} {σ : Sg} {Q : Option Value → Sg → Prop} {x y : Int32} (hd : decode M.2.1 pc = .ok (.irem, 1)) (h : ¬ y = 0 ∧ WP E S M d (pc + 1) Lo (.int (x - x / y * y) :: st) σ Q) : WP E S M d pc Lo (.int y :: .int x :: st) σ Q := by
  intro p e s m args below meth c H locs ls F hP hS hl
  exact lv_irem F.1 F.2.1 hd h.1 (h.2 p e s m args below meth c H locs ls F hP hS hl)
theorem wp_ineg {E : KE} {S : Shp} {M : KM} {d pc : Nat} {Lo : List (Option Value)} {st : List Value} {σ : Sg} {Q : Option Value → Sg → Prop} {x : Int32} (hd : decode M.2.1 pc = .ok (.ineg, 1)) (h : WP E S M d (pc + 1) Lo (.int (-x) :: st) σ Q) : WP E S M d pc Lo (.int x :: st) σ Q := by
  intro p e s m args below meth c H locs ls F hP hS hl
  exact lv_ineg F.1 F.2.1 hd (h p e s m args below meth c H locs ls F hP hS hl)
theorem wp_iushr {E : KE} {S : Shp} {M : KM} {d pc : Nat} {Lo : List (Option Value)} {st : List Value} {σ : Sg} {Q : Option Value → Sg → Prop} {x y : Int32} (hd : decode M.2.1 pc = .ok (.iushr, 1)) (h : WP E S M d (pc + 1) Lo (.int (x.toUInt32 >>> (y.toUInt32 &&& Int32.toUInt32 31)).toInt32 :: st) σ Q) : WP E S M d pc Lo (.int y :: .int x :: st) σ Q := by
  intro p e s m args below meth c H locs ls F hP hS hl
  exact lv_iushr F.1 F.2.1 hd rfl (h p e s m args below meth c H locs ls F hP hS hl)
theorem wp_lushr {E : KE} {S : Shp} {M : KM} {d pc : Nat} {Lo : List (Option Value)} {st : List Value} {σ : Sg} {Q : Option Value → Sg → Prop} {x : Int64} {y : Int32} (hd : decode M.2.1 pc = .ok (.lushr, 1)) (h : WP E S M d (pc + 1) Lo (.long (x.toUInt64 >>> (y.toInt64.toUInt64 &&& Int64.toUInt64 63)).toInt64 :: st) σ Q) : WP E S M d pc Lo (.int y :: .long x :: st) σ Q := by
  intro p e s m args below meth c H locs ls F hP hS hl
  exact lv_lushr F.1 F.2.1 hd rfl (h p e s m args below meth c H locs ls F hP hS hl)
theorem wp_lshr {E : KE} {S : Shp} {M : KM} {d pc : Nat} {Lo : List (Option Value)} {st : List Value} {σ : Sg} {Q : Option Value → Sg → Prop} {x : Int64} {y : Int32} (hd : decode M.2.1 pc = .ok (.lshr, 1)) (h : WP E S M d (pc + 1) Lo (.long (x >>> (y.toInt64 &&& 63)) :: st) σ Q) : WP E S M d pc Lo (.int y :: .long x :: st) σ Q := by
  intro p e s m args below meth c H locs ls F hP hS hl
  exact lv_lshr F.1 F.2.1 hd rfl (h p e s m args below meth c H locs ls F hP hS hl)
theorem wp_lshl {E : KE} {S : Shp} {M : KM} {d pc : Nat} {Lo : List (Option Value)} {st : List Value} {σ : Sg} {Q : Option Value → Sg → Prop} {x : Int64} {y : Int32} (hd : decode M.2.1 pc = .ok (.lshl, 1)) (h : WP E S M d (pc + 1) Lo (.long (x <<< (y.toInt64 &&& 63)) :: st) σ Q) : WP E S M d pc Lo (.int y :: .long x :: st) σ Q := by
  intro p e s m args below meth c H locs ls F hP hS hl
  exact lv_lshl F.1 F.2.1 hd rfl (h p e s m args below meth c H locs ls F hP hS hl)
theorem wp_i2l {E : KE} {S : Shp} {M : KM} {d pc : Nat} {Lo : List (Option Value)} {st : List Value} {σ : Sg} {Q : Option Value → Sg → Prop} {x : Int32} (hd : decode M.2.1 pc = .ok (.i2l, 1)) (h : WP E S M d (pc + 1) Lo (.long x.toInt64 :: st) σ Q) : WP E S M d pc Lo (.int x :: st) σ Q := by
  intro p e s m args below meth c H locs ls F hP hS hl
  exact lv_i2l F.1 F.2.1 hd rfl (h p e s m args below meth c H locs ls F hP hS hl)
theorem wp_l2i {E : KE} {S : Shp} {M : KM} {d pc : Nat} {Lo : List (Option Value)} {st : List Value} {σ : Sg} {Q : Option Value → Sg → Prop} {x : Int64} (hd : decode M.2.1 pc = .ok (.l2i, 1)) (h : WP E S M d (pc + 1) Lo (.int x.toInt32 :: st) σ Q) : WP E S M d pc Lo (.long x :: st) σ Q := by
  intro p e s m args below meth c H locs ls F hP hS hl
  exact lv_l2i F.1 F.2.1 hd rfl (h p e s m args below meth c H locs ls F hP hS hl)
theorem wp_i2b {E : KE} {S : Shp} {M : KM} {d pc : Nat} {Lo : List (Option Value)} {st : List Value} {σ : Sg} {Q : Option Value → Sg → Prop} {x : Int32} (hd : decode M.2.1 pc = .ok (.i2b, 1)) (h : WP E S M d (pc + 1) Lo (.int x.toInt8.toInt32 :: st) σ Q) : WP E S M d pc Lo (.int x :: st) σ Q := by
  intro p e s m args below meth c H locs ls F hP hS hl
  exact lv_i2b F.1 F.2.1 hd rfl (h p e s m args below meth c H locs ls F hP hS hl)
theorem wp_i2s {E : KE} {S : Shp} {M : KM} {d pc : Nat} {Lo : List (Option Value)} {st : List Value} {σ : Sg} {Q : Option Value → Sg → Prop} {x : Int32} (hd : decode M.2.1 pc = .ok (.i2s, 1)) (h : WP E S M d (pc + 1) Lo (.int x.toInt16.toInt32 :: st) σ Q) : WP E S M d pc Lo (.int x :: st) σ Q := by
  intro p e s m args below meth c H locs ls F hP hS hl
  exact lv_i2s F.1 F.2.1 hd rfl (h p e s m args below meth c H locs ls F hP hS hl)
theorem wp_dup {E : KE} {S : Shp} {M : KM} {d pc : Nat} {Lo : List (Option Value)} {st : List Value} {σ : Sg} {Q : Option Value → Sg → Prop} {va : Value} (hd : decode M.2.1 pc = .ok (.dup, 1)) (hva : va.category = 1) (h : WP E S M d (pc + 1) Lo (va :: va :: st) σ Q) : WP E S M d pc Lo (va :: st) σ Q := by
  intro p e s m args below meth c H locs ls F hP hS hl
  exact lv_dup F.1 F.2.1 hd ((k_cv_cat _ _).trans hva) (h p e s m args below meth c H locs ls F hP hS hl)
theorem wp_pop {E : KE} {S : Shp} {M : KM} {d pc : Nat} {Lo : List (Option Value)} {st : List Value} {σ : Sg} {Q : Option Value → Sg → Prop} {va : Value} (hd : decode M.2.1 pc = .ok (.pop, 1)) (hva : va.category = 1) (h : WP E S M d (pc + 1) Lo st σ Q) : WP E S M d pc Lo (va :: st) σ Q := by
  intro p e s m args below meth c H locs ls F hP hS hl
  exact lv_pop F.1 F.2.1 hd ((k_cv_cat _ _).trans hva) (h p e s m args below meth c H locs ls F hP hS hl)
theorem wp_dup2 {E : KE} {S : Shp} {M : KM} {d pc : Nat} {Lo : List (Option Value)} {st : List Value} {σ : Sg} {Q : Option Value → Sg → Prop} {va vb : Value} (hd : decode M.2.1 pc = .ok (.dup2, 1)) (hva : va.category = 1) (hvb : vb.category = 1) (h : WP E S M d (pc + 1) Lo (va :: vb :: va :: vb :: st) σ Q) : WP E S M d pc Lo (va :: vb :: st) σ Q := by
  intro p e s m args below meth c H locs ls F hP hS hl
  exact lv_dup2_11 F.1 F.2.1 hd ((k_cv_cat _ _).trans hva) ((k_cv_cat _ _).trans hvb) (h p e s m args below meth c H locs ls F hP hS hl)
theorem wp_ifeq {E : KE} {S : Shp} {M : KM} {d pc : Nat} {Lo : List (Option Value)} {st : List Value} {σ : Sg} {Q : Option Value → Sg → Prop} {x : Int32} {off : Int} {tgt : Nat} (hd : decode M.2.1 pc = .ok (.ifCond .eq off, 3)) (ht : (pc : Int) + off = (tgt : Int)) (h : (x = 0 → WP E S M d tgt Lo st σ Q) ∧ (¬ x = 0 → WP E S M d (pc + 3) Lo st σ Q)) : WP E S M d pc Lo (.int x :: st) σ Q := by
  intro p e s m args below meth c H locs ls F hP hS hl
  exact lv_if_eq F.1 F.2.1 hd ht (fun q => h.1 q p e s m args below meth c H locs ls F hP hS hl) (fun q => h.2 q p e s m args below meth c H locs ls F hP hS hl)
theorem wp_ifne {E : KE} {S : Shp} {M : KM} {d pc : Nat} {Lo : List (Option Value)} {st : List Value} {σ : Sg} {Q : Option Value → Sg → Prop} {x : Int32} {off : Int} {tgt : Nat} (hd : decode M.2.1 pc = .ok (.ifCond .ne off, 3)) (ht : (pc : Int) + off = (tgt : Int)) (h : (¬ x = 0 → WP E S M d tgt Lo st σ Q) ∧ (x = 0 → WP E S M d (pc + 3) Lo st σ Q)) : WP E S M d pc Lo (.int x :: st) σ Q := by
  intro p e s m args below meth c H locs ls F hP hS hl
  exact lv_if_ne F.1 F.2.1 hd ht (fun q => h.1 q p e s m args below meth c H locs ls F hP hS hl) (fun q => h.2 q p e s m args below meth c H locs ls F hP hS hl)
theorem wp_iflt {E : KE} {S : Shp} {M : KM} {d pc : Nat} {Lo : List (Option Value)} {st : List Value} {σ : Sg} {Q : Option Value → Sg → Prop} {x : Int32} {off : Int} {tgt : Nat} (hd : decode M.2.1 pc = .ok (.ifCond .lt off, 3)) (ht : (pc : Int) + off = (tgt : Int)) (h : (x < 0 → WP E S M d tgt Lo st σ Q) ∧ (¬ x < 0 → WP E S M d (pc + 3) Lo st σ Q)) : WP E S M d pc Lo (.int x :: st) σ Q := by
  intro p e s m args below meth c H locs ls F hP hS hl
  exact lv_if_lt F.1 F.2.1 hd ht (fun q => h.1 q p e s m args below meth c H locs ls F hP hS hl) (fun q => h.2 q p e s m args below meth c H locs ls F hP hS hl)
theorem wp_ifge {E : KE} {S : Shp} {M : KM} {d pc : Nat} {Lo : List (Option Value)} {st : List Value} {σ : Sg} {Q : Option Value → Sg → Prop} {x : Int32} {off : Int} {tgt : Nat} (hd : decode M.2.1 pc = .ok (.ifCond .ge off, 3)) (ht : (pc : Int) + off = (tgt : Int)) (h : (0 ≤ x → WP E S M d tgt Lo st σ Q) ∧ (¬ 0 ≤ x → WP E S M d (pc + 3) Lo st σ Q)) : WP E S M d pc Lo (.int x :: st) σ Q := by
  intro p e s m args below meth c H locs ls F hP hS hl
  exact lv_if_ge F.1 F.2.1 hd ht (fun q => h.1 q p e s m args below meth c H locs ls F hP hS hl) (fun q => h.2 q p e s m args below meth c H locs ls F hP hS hl)
theorem wp_ifgt {E : KE} {S : Shp} {M : KM} {d pc : Nat} {Lo : List (Option Value)} {st : List Value} {σ : Sg} {Q : Option Value → Sg → Prop} {x : Int32} {off : Int} {tgt : Nat} (hd : decode M.2.1 pc = .ok (.ifCond .gt off, 3)) (ht : (pc : Int) + off = (tgt : Int)) (h : (0 < x → WP E S M d tgt Lo st σ Q) ∧ (¬ 0 < x → WP E S M d (pc + 3) Lo st σ Q)) : WP E S M d pc Lo (.int x :: st) σ Q := by
  intro p e s m args below meth c H locs ls F hP hS hl
  exact lv_if_gt F.1 F.2.1 hd ht (fun q => h.1 q p e s m args below meth c H locs ls F hP hS hl) (fun q => h.2 q p e s m args below meth c H locs ls F hP hS hl)
theorem wp_ifle {E : KE} {S : Shp} {M : KM} {d pc : Nat} {Lo : List (Option Value)} {st : List Value} {σ : Sg} {Q : Option Value → Sg → Prop} {x : Int32} {off : Int} {tgt : Nat} (hd : decode M.2.1 pc = .ok (.ifCond .le off, 3)) (ht : (pc : Int) + off = (tgt : Int)) (h : (x ≤ 0 → WP E S M d tgt Lo st σ Q) ∧ (¬ x ≤ 0 → WP E S M d (pc + 3) Lo st σ Q)) : WP E S M d pc Lo (.int x :: st) σ Q := by
  intro p e s m args below meth c H locs ls F hP hS hl
  exact lv_if_le F.1 F.2.1 hd ht (fun q => h.1 q p e s m args below meth c H locs ls F hP hS hl) (fun q => h.2 q p e s m args below meth c H locs ls F hP hS hl)
theorem wp_icmpeq {E : KE} {S : Shp} {M : KM} {d pc : Nat} {Lo : List (Option Value)} {st : List Value} {σ : Sg} {Q : Option Value → Sg → Prop} {x y : Int32} {off : Int} {tgt : Nat} (hd : decode M.2.1 pc = .ok (.if_icmp .eq off, 3)) (ht : (pc : Int) + off = (tgt : Int)) (h : (x = y → WP E S M d tgt Lo st σ Q) ∧ (¬ x = y → WP E S M d (pc + 3) Lo st σ Q)) : WP E S M d pc Lo (.int y :: .int x :: st) σ Q := by
  intro p e s m args below meth c H locs ls F hP hS hl
  exact lv_icmp_eq F.1 F.2.1 hd ht (fun q => h.1 q p e s m args below meth c H locs ls F hP hS hl) (fun q => h.2 q p e s m args below meth c H locs ls F hP hS hl)
theorem wp_icmpne {E : KE} {S : Shp} {M : KM} {d pc : Nat} {Lo : List (Option Value)} {st : List Value} {σ : Sg} {Q : Option Value → Sg → Prop} {x y : Int32} {off : Int} {tgt : Nat} (hd : decode M.2.1 pc = .ok (.if_icmp .ne off, 3)) (ht : (pc : Int) + off = (tgt : Int)) (h : (¬ x = y → WP E S M d tgt Lo st σ Q) ∧ (x = y → WP E S M d (pc + 3) Lo st σ Q)) : WP E S M d pc Lo (.int y :: .int x :: st) σ Q := by
  intro p e s m args below meth c H locs ls F hP hS hl
  exact lv_icmp_ne F.1 F.2.1 hd ht (fun q => h.1 q p e s m args below meth c H locs ls F hP hS hl) (fun q => h.2 q p e s m args below meth c H locs ls F hP hS hl)
theorem wp_icmplt {E : KE} {S : Shp} {M : KM} {d pc : Nat} {Lo : List (Option Value)} {st : List Value} {σ : Sg} {Q : Option Value → Sg → Prop} {x y : Int32} {off : Int} {tgt : Nat} (hd : decode M.2.1 pc = .ok (.if_icmp .lt off, 3)) (ht : (pc : Int) + off = (tgt : Int)) (h : (x < y → WP E S M d tgt Lo st σ Q) ∧ (¬ x < y → WP E S M d (pc + 3) Lo st σ Q)) : WP E S M d pc Lo (.int y :: .int x :: st) σ Q := by
  intro p e s m args below meth c H locs ls F hP hS hl
  exact lv_icmp_lt F.1 F.2.1 hd ht (fun q => h.1 q p e s m args below meth c H locs ls F hP hS hl) (fun q => h.2 q p e s m args below meth c H locs ls F hP hS hl)
theorem wp_icmpge {E : KE} {S : Shp} {M : KM} {d pc : Nat} {Lo : List (Option Value)} {st : List Value} {σ : Sg} {Q : Option Value → Sg → Prop} {x y : Int32} {off : Int} {tgt : Nat} (hd : decode M.2.1 pc = .ok (.if_icmp .ge off, 3)) (ht : (pc : Int) + off = (tgt : Int)) (h : (y ≤ x → WP E S M d tgt Lo st σ Q) ∧ (¬ y ≤ x → WP E S M d (pc + 3) Lo st σ Q)) : WP E S M d pc Lo (.int y :: .int x :: st) σ Q := by
  intro p e s m args below meth c H locs ls F hP hS hl
  exact lv_icmp_ge F.1 F.2.1 hd ht (fun q => h.1 q p e s m args below meth c H locs ls F hP hS hl) (fun q => h.2 q p e s m args below meth c H locs ls F hP hS hl)
theorem wp_icmpgt {E : KE} {S : Shp} {M : KM} {d pc : Nat} {Lo : List (Option Value)} {st : List Value} {σ : Sg} {Q : Option Value → Sg → Prop} {x y : Int32} {off : Int} {tgt : Nat} (hd : decode M.2.1 pc = .ok (.if_icmp .gt off, 3)) (ht : (pc : Int) + off = (tgt : Int)) (h : (y < x → WP E S M d tgt Lo st σ Q) ∧ (¬ y < x → WP E S M d (pc + 3) Lo st σ Q)) : WP E S M d pc Lo (.int y :: .int x :: st) σ Q := by
  intro p e s m args below meth c H locs ls F hP hS hl
  exact lv_icmp_gt F.1 F.2.1 hd ht (fun q => h.1 q p e s m args below meth c H locs ls F hP hS hl) (fun q => h.2 q p e s m args below meth c H locs ls F hP hS hl)
theorem wp_icmple {E : KE} {S : Shp} {M : KM} {d pc : Nat} {Lo : List (Option Value)} {st : List Value} {σ : Sg} {Q : Option Value → Sg → Prop} {x y : Int32} {off : Int} {tgt : Nat} (hd : decode M.2.1 pc = .ok (.if_icmp .le off, 3)) (ht : (pc : Int) + off = (tgt : Int)) (h : (x ≤ y → WP E S M d tgt Lo st σ Q) ∧ (¬ x ≤ y → WP E S M d (pc + 3) Lo st σ Q)) : WP E S M d pc Lo (.int y :: .int x :: st) σ Q := by
  intro p e s m args below meth c H locs ls F hP hS hl
  exact lv_icmp_le F.1 F.2.1 hd ht (fun q => h.1 q p e s m args below meth c H locs ls F hP hS hl) (fun q => h.2 q p e s m args below meth c H locs ls F hP hS hl)
theorem wp_goto {E : KE} {S : Shp} {M : KM} {d pc : Nat} {Lo : List (Option Value)} {st : List Value} {σ : Sg} {Q : Option Value → Sg → Prop} {off : Int} {tgt : Nat} (hd : decode M.2.1 pc = .ok (.goto off, 3)) (ht : (pc : Int) + off = (tgt : Int)) (h : WP E S M d tgt Lo st σ Q) : WP E S M d pc Lo st σ Q := by
  intro p e s m args below meth c H locs ls F hP hS hl
  exact lv_goto F.1 F.2.1 hd ht (h p e s m args below meth c H locs ls F hP hS hl)
theorem wp_ldc {E : KE} {S : Shp} {M : KM} {d pc : Nat} {Lo : List (Option Value)} {st : List Value} {σ : Sg} {Q : Option Value → Sg → Prop} {idx : Nat} {v : Int32} (hw : Cond.constant M.1.cls idx v ∈ k_gw) (hd : decode M.2.1 pc = .ok (.ldc idx, 2)) (h : WP E S M d (pc + 2) Lo (.int v :: st) σ Q) : WP E S M d pc Lo st σ Q := by
  intro p e s m args below meth c H locs ls F hP hS hl
  exact lv_ldc F.1 F.2.1 F.2.2.2.2.2.1 (F.2.2.2.2.2.2.1 _ (List.mem_cons_of_mem _ hw)) hd (h p e s m args below meth c H locs ls F hP hS hl)
theorem wp_ldcw {E : KE} {S : Shp} {M : KM} {d pc : Nat} {Lo : List (Option Value)} {st : List Value} {σ : Sg} {Q : Option Value → Sg → Prop} {idx : Nat} {v : Int32} (hw : Cond.constant M.1.cls idx v ∈ k_gw) (hd : decode M.2.1 pc = .ok (.ldc_w idx, 3)) (h : WP E S M d (pc + 3) Lo (.int v :: st) σ Q) : WP E S M d pc Lo st σ Q := by
  intro p e s m args below meth c H locs ls F hP hS hl
  exact lv_ldcw F.1 F.2.1 F.2.2.2.2.2.1 (F.2.2.2.2.2.2.1 _ (List.mem_cons_of_mem _ hw)) hd (h p e s m args below meth c H locs ls F hP hS hl)
theorem wp_ldc2 {E : KE} {S : Shp} {M : KM} {d pc : Nat} {Lo : List (Option Value)} {st : List Value} {σ : Sg} {Q : Option Value → Sg → Prop} {idx : Nat} {v : Int64} (hw : Cond.constantLong M.1.cls idx v ∈ k_gw) (hd : decode M.2.1 pc = .ok (.ldc2_w idx, 3)) (h : WP E S M d (pc + 3) Lo (.long v :: st) σ Q) : WP E S M d pc Lo st σ Q := by
  intro p e s m args below meth c H locs ls F hP hS hl
  exact lv_ldc2 F.1 F.2.1 F.2.2.2.2.2.1 (F.2.2.2.2.2.2.1 _ (List.mem_cons_of_mem _ hw)) hd (h p e s m args below meth c H locs ls F hP hS hl)

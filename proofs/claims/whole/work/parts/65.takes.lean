/-! promise 26: the reference tries all rows -/
def unN (f : Nat → Nat) (k x : Nat) : Nat → Nat := fun j => if j = k then x else f j
theorem unN_at {f : Nat → Nat} {k x : Nat} : unN f k x k = x := if_pos rfl
theorem unN_ne {f : Nat → Nat} {k x j : Nat} (h : j ≠ k) : unN f k x j = f j := if_neg h
theorem sF_ag {f a b : Nat → Nat} : ∀ {n : Nat}, Ag n a b → sF f a n = sF f b n
  | 0, _ => rfl
  | n + 1, h => by
    simp only [sF]
    rw [sF_ag (n := n) (fun j hj => h j (by omega)), h n (by omega)]
theorem sF_w {hk pk r : Nat → Nat} : ∀ n, sF (wF hk pk) r n = 4000 * sF hk r n + sF pk r n
  | 0 => rfl
  | n + 1 => by
    simp only [sF]
    rw [sF_w n]
    unfold wF
    omega
theorem sF_le {f r : Nat → Nat} {b : Nat} (h : ∀ j, f j ≤ b) : ∀ n, sF f r n ≤ n * b
  | 0 => Nat.zero_le _
  | n + 1 => by
    have := sF_le (r := r) h n
    have := h (r n)
    simp only [sF]
    rw [Nat.succ_mul]
    omega
theorem Lx_asym {n : Nat} {a b : Nat → Nat} (h : Lx n a b) (h' : Lx n b a) : False := by
  obtain ⟨i, i1, i2, i3⟩ := h
  obtain ⟨k, k1, k2, k3⟩ := h'
  rcases (by omega : i < k ∨ i = k ∨ k < i) with c | c | c
  · have := k2 i c; omega
  · subst c; omega
  · have := i2 k c; omega
theorem Lx_ag {n : Nat} {a b c : Nat → Nat} (h : Ag n a c) (h' : Lx n a b) : Lx n c b := by
  obtain ⟨i, i1, i2, i3⟩ := h'
  exact ⟨i, i1, fun j hj => by rw [← h j (by omega)]; exact i2 j hj, by rw [← h i i1]; exact i3⟩
theorem Lx_ag2 {n : Nat} {a b : Nat → Nat} (h : Ag n a b) : ¬ Lx n a b := by
  rintro ⟨i, i1, i2, i3⟩
  have := h i i1
  omega
theorem Ag_s {m x : Nat} {r f : Nat → Nat} : Ag (m + 1) r (unN f m x) ↔ Ag m r f ∧ r m = x := by
  constructor
  · intro h
    refine ⟨fun j hj => ?_, ?_⟩
    · have := h j (by omega)
      rw [unN_ne (by omega)] at this
      exact this
    · have := h m (by omega)
      rw [unN_at] at this
      exact this
  · rintro ⟨h1, h2⟩ j hj
    by_cases e : j = m
    · subst e; rw [unN_at]; exact h2
    · rw [unN_ne e]; exact h1 j (by omega)
theorem Lx_s {m x : Nat} {r f : Nat → Nat} : Lx (m + 1) r (unN f m x) ↔ Lx m r f ∨ (Ag m r f ∧ r m < x) := by
  constructor
  · rintro ⟨i, i1, i2, i3⟩
    by_cases e : i = m
    · subst e
      rw [unN_at] at i3
      exact Or.inr ⟨fun j hj => by have := i2 j hj; rw [unN_ne (by omega)] at this; exact this, i3⟩
    · rw [unN_ne e] at i3
      exact Or.inl ⟨i, by omega, fun j hj => by have := i2 j hj; rw [unN_ne (by omega)] at this; exact this, i3⟩
  · rintro (⟨i, i1, i2, i3⟩ | ⟨h1, h2⟩)
    · exact ⟨i, by omega, fun j hj => by rw [unN_ne (by omega)]; exact i2 j hj, by rw [unN_ne (by omega)]; exact i3⟩
    · exact ⟨m, by omega, fun j hj => by rw [unN_ne (by omega)]; exact h1 j hj, by rw [unN_at]; exact h2⟩
/-- rows tried: ahead of a place; all that begin so -/
def En (v : Int32) (n m : Nat) (pre : Nat → Nat) (q : Nat) (r : Nat → Nat) : Prop := VR v n r ∧ (Lx m r pre ∨ (Ag m r pre ∧ m < n ∧ r m < q))
def Ex (v : Int32) (n m : Nat) (pre : Nat → Nat) (r : Nat → Nat) : Prop := VR v n r ∧ (Lx m r pre ∨ Ag m r pre)
theorem En_28 {v : Int32} {n m : Nat} {pre r : Nat → Nat} (h : m < n) : En v n m pre 28 r ↔ Ex v n m pre r := by
  unfold En Ex
  constructor
  · rintro ⟨a, b⟩
    exact ⟨a, b.imp id (fun z => z.1)⟩
  · rintro ⟨a, b⟩
    exact ⟨a, b.imp id (fun z => ⟨z, h, (a m h).1.1⟩)⟩
theorem En_no {v : Int32} {n m q : Nat} {pre r : Nat → Nat} (hb : ¬ bt v q = true) : En v n m pre q r ↔ En v n m pre (q + 1) r := by
  unfold En
  constructor
  · rintro ⟨a, b⟩
    exact ⟨a, b.imp id (fun z => ⟨z.1, z.2.1, by omega⟩)⟩
  · rintro ⟨a, b⟩
    refine ⟨a, b.imp id (fun z => ⟨z.1, z.2.1, ?_⟩)⟩
    have b2 := (a m z.2.1).1.2
    by_cases e : r m = q
    · rw [e] at b2; exact absurd b2 hb
    · omega
theorem En_in {v : Int32} {n m q : Nat} {pre r : Nat → Nat} (h : m < n) : En v n m pre q r ↔ En v n (m + 1) (unN pre m q) (q + 1) r := by
  unfold En
  rw [Lx_s, Ag_s]
  constructor
  · rintro ⟨a, b⟩
    exact ⟨a, Or.inl (b.imp id (fun z => ⟨z.1, z.2.2⟩))⟩
  · rintro ⟨a, b | b⟩
    · exact ⟨a, b.imp id (fun z => ⟨z.1, h, z.2⟩)⟩
    · have := (a m h).2 b.2.1
      have := b.1.2
      omega
theorem En_out {v : Int32} {n m q : Nat} {pre r : Nat → Nat} (h : m < n) : Ex v n (m + 1) (unN pre m q) r ↔ En v n m pre (q + 1) r := by
  unfold En Ex
  rw [Lx_s, Ag_s]
  constructor
  · rintro ⟨a, (b | b) | b⟩
    · exact ⟨a, Or.inl b⟩
    · exact ⟨a, Or.inr ⟨b.1, h, by omega⟩⟩
    · exact ⟨a, Or.inr ⟨b.1, h, by omega⟩⟩
  · rintro ⟨a, b | b⟩
    · exact ⟨a, Or.inl (Or.inl b)⟩
    · refine ⟨a, ?_⟩
      by_cases e : r m = q
      · exact Or.inr ⟨b.1, e⟩
      · exact Or.inl (Or.inr ⟨b.1, by omega⟩)
/-- the best row of those tried, as the reference keeps it -/
def BT (hk pk : Nat → Nat) (n u : Nat) (S : (Nat → Nat) → Prop) (τ : Sg) : Prop := (τ 0 19 = (-1 : Int32) ∧ ∀ r, ¬ S r) ∨ ∃ b, S b ∧ (∀ r, S r → ¬ Bt (wF hk pk) n r b) ∧ τ 0 19 = nI (u + sF hk b n) ∧ τ 0 20 = nI (sF pk b n) ∧ ∀ j, j < n → τ 13 j = nI (b j)
theorem BT.cg {hk pk : Nat → Nat} {n u : Nat} {S S' : (Nat → Nat) → Prop} {τ : Sg} (h : BT hk pk n u S τ) (e : ∀ r, S r ↔ S' r) : BT hk pk n u S' τ := by
  rcases h with ⟨a, b⟩ | ⟨b, h1, h2, h3⟩
  · exact Or.inl ⟨a, fun r z => b r ((e r).mpr z)⟩
  · exact Or.inr ⟨b, (e b).mp h1, fun r z => h2 r ((e r).mpr z), h3⟩
theorem BT.st {hk pk : Nat → Nat} {n u : Nat} {S : (Nat → Nat) → Prop} {τ τ' : Sg} (h : BT hk pk n u S τ) (e0 : τ' 0 = τ 0) (e13 : τ' 13 = τ 13) : BT hk pk n u S τ' := by
  unfold BT at *
  rw [e0, e13]; exact h
theorem bt_put {hk pk : Nat → Nat} {v : Int32} {n u : Nat} {pre : Nat → Nat} {τ : Sg} (hv : VR v n pre) (h1 : τ 0 19 = nI (u + sF hk pre n)) (h2 : τ 0 20 = nI (sF pk pre n)) (h3 : ∀ j, j < n → τ 13 j = nI (pre j)) (hb : ∀ r, VR v n r → Lx n r pre → sF (wF hk pk) pre n < sF (wF hk pk) r n) : BT hk pk n u (Ex v n n pre) τ := by
  refine Or.inr ⟨pre, ⟨hv, Or.inr (fun j _ => rfl)⟩, ?_, h1, h2, h3⟩
  rintro r ⟨a, b | b⟩ (c | ⟨c1, c2⟩)
  · have := hb r a b; omega
  · have := hb r a b; omega
  · rw [sF_ag b] at c; omega
  · exact Lx_ag2 b c2
theorem bt_keep {hk pk : Nat → Nat} {v : Int32} {n u : Nat} {pre b : Nat → Nat} {τ : Sg} (h0 : VR v n b ∧ Lx n b pre) (hm : ∀ r, VR v n r ∧ Lx n r pre → ¬ Bt (wF hk pk) n r b) (h1 : τ 0 19 = nI (u + sF hk b n)) (h2 : τ 0 20 = nI (sF pk b n)) (h3 : ∀ j, j < n → τ 13 j = nI (b j)) (hb : sF (wF hk pk) b n ≤ sF (wF hk pk) pre n) : BT hk pk n u (Ex v n n pre) τ := by
  refine Or.inr ⟨b, ⟨h0.1, Or.inl h0.2⟩, ?_, h1, h2, h3⟩
  rintro r ⟨a, c | c⟩ z
  · exact hm r ⟨a, c⟩ z
  · rcases z with z | ⟨z1, z2⟩
    · rw [sF_ag c] at z; omega
    · exact Lx_asym h0.2 (Lx_ag c z2)
theorem k_put_self {σ : Sg} {i : Nat} : k_put σ i (σ i) = σ := by
  funext j; unfold k_put; split
  · next h => rw [h]
  · rfl
theorem eqM.lay {τ τ5 : Sg} {i : Nat} {a b : Int32} (h : eqM (k_put τ 1 (upd (τ 1) i a)) τ5) (e : τ 1 i = b) : eqM τ (k_put τ5 1 (upd (τ5 1) i b)) := by
  obtain ⟨r1, r2, r4, r5, r6, r7, r14, r3, r22⟩ := h
  refine ⟨?_, ?_, ?_, ?_, ?_, ?_, ?_, ?_, ?_⟩
  · rw [k_put_at, r1, k_put_at]
    funext j
    by_cases ej : j = i
    · subst ej; rw [upd_at, e]
    · rw [upd_ne ej, upd_ne ej]
  · rw [k_put_ne (by decide), r2, k_put_ne (by decide)]
  · rw [k_put_ne (by decide), r4, k_put_ne (by decide)]
  · rw [k_put_ne (by decide), r5, k_put_ne (by decide)]
  · rw [k_put_ne (by decide), r6, k_put_ne (by decide)]
  · rw [k_put_ne (by decide), r7, k_put_ne (by decide)]
  · rw [k_put_ne (by decide), r14, k_put_ne (by decide)]
  · rw [k_put_ne (by decide), r3, k_put_ne (by decide)]
  · rw [k_put_ne (by decide), r22, k_put_ne (by decide)]
section P65
variable {E E' : KE} {S : Shp} {d d' : Nat} {x1 x2 x3 : Int32} {σ τ : Sg} {Z : Int32 → Int32 → Sg → Sg → Prop} {K : Int32 → Sg → Prop} {L : Sg → Prop}
theorem T_keepRow {n : Nat} (hn : n ≤ 3) : ∀ r i, i + r = n → ∀ τ : Sg, (∀ j, j < i → τ 13 j = τ 12 j) → (∀ g : Nat → Int32, (∀ j, j < n → g j = τ 12 j) → L (k_put τ 13 g)) → WP E shR mX11_takes (d + 1) 60 [some (.ref 0), none, none, some (.int (nI n)), none, none, none, some (.int (nI i)), none] [] τ (k_qn L) := by
  intro r
  induction r with
  | zero =>
    intro i hi τ hg h
    have e : i = n := by omega
    subst e
    apply vb_Md_takes_60
    refine ⟨fun _ => ?_, fun z => absurd (Int32.le_refl _) z⟩
    have := h (τ 13) hg
    rw [k_put_self] at this
    exact this
  | succ r ih =>
    intro i hi τ hg h
    apply vb_Md_takes_60
    rw [nI_leI (by omega) (by omega), nI_add, show (nI i).toNatClampNeg = i from nI_clamp (by omega)]
    have vi := vp_in_nI (show i < 3 by omega) (by decide)
    refine ⟨fun z => absurd z (by omega), fun _ => ⟨vi, vi, ?_⟩⟩
    rintro _ rfl
    refine ih (i + 1) (by omega) _ (fun j hj => ?_) (fun g hg2 => ?_)
    · rw [k_put_at, k_put_ne (by decide)]
      by_cases e : j = i
      · subst e; rw [upd_at]
      · rw [upd_ne e]; exact hg j (by omega)
    · rw [k_put_put]
      refine h g (fun j hj => ?_)
      rw [hg2 j hj, k_put_ne (by decide)]
theorem T_takes {v : Int32} {n u p : Nat} {hk pk : Nat → Nat} (hn : n ≤ 3) (hp : p < 6) (hu : u ≤ 8) (bp : ∀ j, pk j < 1000) (bh : ∀ j, hk j ≤ 8) : ∀ k m, m + k = n → ∀ (pre : Nat → Nat) (q : Nat) (σv τ : Sg) (L : Sg → Prop) (D : Nat), D = d + k + 5 → RW σv (τ 1) → VR v m pre → (0 < m → pre (m - 1) < q) → q ≤ 28 → (∀ j, j < m → τ 12 j = nI (pre j)) → unkF σv (nQ σv) = u + sF hk pre m → (∀ j, q ≤ j → j < 28 → hkF σv p j = hk j ∧ pkF σv p j = pk j ∧ (bt v j = true ↔ ¬ σv 7 (p * 28 + j) ≤ 0)) → BT hk pk n u (En v n m pre q) τ → (∀ τ', eqM τ τ' → (∀ j, j < m → τ' 12 j = nI (pre j)) → BT hk pk n u (Ex v n m pre) τ' → L τ') → CallN E shR D mX11_takes [.ref 0, .int (nI p), .int (nI m), .int (nI n), .int (nI q), .int (nI (sF pk pre m))] τ L := by
  have sp : ∀ r, sF pk r n ≤ 2997 := fun r => by
    have := sF_le (f := pk) (r := r) (b := 999) (fun j => by have := bp j; omega) n
    omega
  have sh : ∀ r, sF hk r n ≤ 24 := fun r => by
    have := sF_le (f := hk) (r := r) (b := 8) bh n
    omega
  intro k
  induction k with
  | zero =>
    intro m hm pre q σv τ L D hD hW hv hlast hq ht hk0 hday hB h
    have e : m = n := by omega
    subst e
    subst hD
    show CallN E shR (d + 4 + 1) _ _ _ _
    have hB : BT hk pk m u (fun r => VR v m r ∧ Lx m r pre) τ := hB.cg (fun r => ⟨fun z => ⟨z.1, z.2.elim id (fun y => absurd y.2.1 (Nat.lt_irrefl m))⟩, fun z => ⟨z.1, Or.inl z.2⟩⟩)
    have put : (∀ r, VR v m r → Lx m r pre → sF (wF hk pk) pre m < sF (wF hk pk) r m) → WP E shR mX11_takes (d + 4 + 1) 60 [some (.ref 0), none, none, some (.int (nI m)), none, none, none, some (.int (nI 0)), none] [] (k_put (k_put τ 0 (upd (τ 0) 19 (nI (u + sF hk pre m)))) 0 (upd ((k_put τ 0 (upd (τ 0) 19 (nI (u + sF hk pre m)))) 0) 20 (nI (sF pk pre m)))) (k_qn L) := by
      intro hb
      rw [k_put_at, k_put_put]
      refine T_keepRow hn m 0 (Nat.zero_add _) _ (fun j hj => absurd hj (Nat.not_lt_zero j)) (fun g hg => ?_)
      have hg2 : ∀ j, j < m → g j = nI (pre j) := fun j hj => by
        rw [hg j hj, k_put_ne (by decide)]; exact ht j hj
      refine h _ ?_ (fun j hj => ?_) (bt_put hv ?_ ?_ ?_ hb)
      · refine eqM.tr ?_ (eqM.put (i := 13) (by decide))
        refine ⟨rfl, rfl, rfl, rfl, rfl, rfl, rfl, ?_, ?_⟩
        · rw [k_put_at, upd_ne (by decide), upd_ne (by decide)]
        · rw [k_put_at, upd_ne (by decide), upd_ne (by decide)]
      · rw [k_put_ne (by decide), k_put_ne (by decide)]; exact ht j hj
      · rw [k_put_ne (by decide), k_put_at, upd_ne (by decide), upd_at]
      · rw [k_put_ne (by decide), k_put_at, upd_at]
      · intro j hj
        rw [k_put_at]; exact hg2 j hj
    have s1 := sh pre
    have s2 := sp pre
    refine vc_Md_takes ⟨fun z => absurd rfl z, fun _ => T_notKept hW ?_⟩
    rw [hk0]
    rcases hB with ⟨b1, b2⟩ | ⟨b, b1, b2, b3, b4, b5⟩
    · rw [b1]
      refine ⟨fun _ => ?_, fun z => absurd (by decide) z⟩
      rintro _ rfl
      rintro _ rfl
      exact put (fun r r1 r2 => absurd ⟨r1, r2⟩ (b2 r))
    · have s3 := sh b
      have s4 := sp b
      have w1 := sF_w (hk := hk) (pk := pk) (r := pre) m
      have w2 := sF_w (hk := hk) (pk := pk) (r := b) m
      have mn : ∀ r, VR v m r → Lx m r pre → sF (wF hk pk) b m ≤ sF (wF hk pk) r m := fun r r1 r2 => by
        have := b2 r ⟨r1, r2⟩
        unfold Bt at this
        omega
      have keep : sF (wF hk pk) b m ≤ sF (wF hk pk) pre m → L τ := fun z => h τ eqM.rf ht (bt_keep b1 b2 b3 b4 b5 z)
      rw [b3, b4, k_n0lt (by omega), nI_ltI (by omega) (by omega), nI_eq (by omega) (by omega), nI_leI (by omega) (by omega)]
      refine ⟨fun z => z.elim, fun _ => ⟨fun c => ?_, fun c => ⟨fun c2 => keep (by omega), fun c2 => ⟨fun c3 => keep (by omega), fun c3 => ?_⟩⟩⟩⟩
      · rintro _ rfl
        rintro _ rfl
        exact put (fun r r1 r2 => by have := mn r r1 r2; omega)
      · rintro _ rfl
        rintro _ rfl
        exact put (fun r r1 r2 => by have := mn r r1 r2; omega)
  | succ k ih =>
    intro m hm pre q σv τ L D hD hW hv hlast hq ht hk0 hday hB h
    have hD : D = d + k + 5 + 1 := by omega
    subst hD
    have hmn : m < n := by omega
    have hA := hW.a
    have hQ := hW.q
    refine vc_Md_takes ⟨fun _ => ?_, fun z => absurd ((nI_eq (by omega) (by omega)).mp z) (by omega)⟩
    have loop : ∀ r dd, dd + r = 28 → q ≤ dd → ∀ τ1, eqM τ τ1 → (∀ j, j < m → τ1 12 j = nI (pre j)) → BT hk pk n u (En v n m pre dd) τ1 → WP E shR mX11_takes (d + k + 5 + 1) 91 [some (.ref 0), some (.int (nI p)), some (.int (nI m)), some (.int (nI n)), none, some (.int (nI (sF pk pre m))), some (.int (nI dd)), none, none] [] τ1 (k_qn L) := by
      intro r
      induction r with
      | zero =>
        intro dd hd hqd τ1 f1 t1 B1
        have e : dd = 28 := by omega
        subst e
        apply vb_Md_takes_91
        exact ⟨fun _ => h τ1 f1 t1 (B1.cg (fun r => En_28 hmn)), fun z => absurd (Int32.le_refl _) z⟩
      | succ r ihr =>
        intro dd hd hqd τ1 f1 t1 B1
        have ihr := ihr (dd + 1) (by omega) (by omega)
        have hW1 : RW σv (τ1 1) := by rw [f1.1]; exact hW
        obtain ⟨day1, day2, day3⟩ := hday dd hqd (by omega)
        apply vb_Md_takes_91
        rw [nI_leI (by omega) (by omega), nI_add, nI_add, nI_add]
        refine ⟨fun z => absurd z (by omega), fun _ => T_Mof hp (by omega) ?_⟩
        have erow := (hW1.ra.2 p hp).2 dd (by omega)
        rw [erow]
        obtain ⟨t, ht10, et⟩ := (hA.2 p hp).2 dd (by omega)
        refine ⟨fun c => ?_, fun c => (T_MpriceOf (d := d) hW1.ra hW1.x hp (by omega) (fun τ2 f2 => ?_)).deep (by omega)⟩
        · exact ihr τ1 f1 t1 (B1.cg (fun r => En_no (fun z => day3.mp z c)))
        · have tpos : 0 < t := by
            rcases Nat.eq_zero_or_pos t with z | z
            · subst z; rw [et] at c; exact absurd (Int32.le_refl _) c
            · exact z
          obtain ⟨t', rfl⟩ : ∃ t', t = t' + 1 := ⟨t - 1, by omega⟩
          have hbit : bt v dd = true := day3.mpr c
          refine ⟨vp_in_nI (by omega) (by decide), ?_⟩
          rintro _ rfl
          rw [show (nI m).toNatClampNeg = m from nI_clamp (by omega), et, show nI (t' + 1) - nI 1 = nI t' by rw [pk_sub (by omega)]; rfl]
          have pe := pkF_eq σv p dd
          rw [day2] at pe
          rw [pe.1, nI_add]
          have f13 : eqM τ1 (k_put τ2 12 (upd (τ2 12) m (nI dd))) := f2.m.tr (eqM.put (by decide))
          have t3 : ∀ j, j < m + 1 → (k_put τ2 12 (upd (τ2 12) m (nI dd))) 12 j = nI (unN pre m dd j) := fun j hj => by
            rw [k_put_at]
            by_cases e : j = m
            · subst e; rw [upd_at, unN_at]
            · rw [upd_ne e, unN_ne e, f2 12 rfl]; exact t1 j (by omega)
          have B3 : BT hk pk n u (En v n m pre dd) (k_put τ2 12 (upd (τ2 12) m (nI dd))) := B1.st (by rw [k_put_ne (by decide), f2 0 rfl]) (by rw [k_put_ne (by decide), f2 13 rfl])
          generalize k_put τ2 12 (upd (τ2 12) m (nI dd)) = τ3 at f13 t3 B3
          have hW3 : RW σv (τ3 1) := by rw [f13.1]; exact hW1
          have erow3 := (hW3.ra.2 p hp).2 dd (by omega)
          rw [et] at erow3
          refine T_Mlay hp (by omega) ?_
          have epk : sF pk pre m + pk dd = sF pk (unN pre m dd) (m + 1) := by
            simp only [sF]
            rw [unN_at, sF_ag (a := unN pre m dd) (b := pre) (fun j hj => unN_ne (by omega))]
          have ehk : sF hk pre m + hk dd = sF hk (unN pre m dd) (m + 1) := by
            simp only [sF]
            rw [unN_at, sF_ag (a := unN pre m dd) (b := pre) (fun j hj => unN_ne (by omega))]
          rw [epk]
          refine ih (m + 1) (by omega) (unN pre m dd) (dd + 1) (dlF σv p dd t') _ _ _ rfl ?_ ?_ ?_ (by omega) ?_ ?_ ?_ ?_ ?_
          · rw [k_put_at]
            exact hW3.up7 hp (by omega) ⟨t', by omega, rfl⟩
          · intro i hi
            by_cases e : i = m
            · subst e
              rw [unN_at]
              exact ⟨⟨by omega, hbit⟩, fun z => absurd z (by omega)⟩
            · rw [unN_ne e]
              have := hv i (by omega)
              refine ⟨this.1, fun z => ?_⟩
              by_cases e2 : i + 1 = m
              · rw [e2, unN_at]
                have l := hlast (by omega)
                rw [show m - 1 = i by omega] at l
                omega
              · rw [unN_ne e2]; exact this.2 (by omega)
          · intro _
            rw [show m + 1 - 1 = m by omega, unN_at]; omega
          · intro j hj
            rw [k_put_ne (by decide)]; exact t3 j hj
          · have := unk_rd hA hQ hp (by omega) (by omega) et
            have e8 : nQ (dlF σv p dd t') = nQ σv := rfl
            rw [e8, this, hk0, day1]
            omega
          · intro j hj1 hj2
            obtain ⟨y1, y2, y3⟩ := hday j (by omega) hj2
            refine ⟨by rw [hkF_o hQ (by omega) hj2 (by omega)]; exact y1, ?_, ?_⟩
            · have : priceF (dlF σv p dd t') p j = priceF σv p j := priceF_o (by omega)
              unfold pkF at y2 ⊢
              rw [this]; exact y2
            · have : dlF σv p dd t' 7 (p * 28 + j) = σv 7 (p * 28 + j) := by
                unfold dlF
                rw [k_put_at, upd_ne (by omega)]
              rw [this]; exact y3
          · exact (B3.cg (fun r => En_in hmn)).st (k_put_ne (by decide)) (k_put_ne (by decide))
          · intro τ5 f5 t5 B5
            refine T_Mlay hp (by omega) ?_
            have f6 := f5.lay erow3
            exact ihr _ (f1.tr (f13.tr f6)) (fun j hj => by
              rw [k_put_ne (by decide), t5 j (by omega), unN_ne (by omega)]) ((B5.cg (fun r => En_out hmn)).st (k_put_ne (by decide)) (k_put_ne (by decide)))
    exact loop (28 - q) q (by omega) (Nat.le_refl _) τ eqM.rf ht hB
end P65

/-! THE MACHINE'S PART: a method's own instructions as a tree of pure propositions; a tree that holds gives the walk. -/
abbrev Mm : Type := (Nat → Nat → Int32) × (Nat → Int64)
abbrev Ls : Type := List (Option Value)
abbrev Tr : Type := Ls → List Value → Mm → Prop
abbrev Rs : Type := (Option Value × Mm) ⊕ (String × Mm)
abbrev Sp : Type := List Value → Mm → Option Rs
def k_asc : Nat → Ls → List (Nat × Value)
  | _, [] => []
  | i, none :: t => k_asc (i + 1) t
  | i, some v :: t => (i, v) :: k_asc (i + 1) t
theorem k_asc_mem : ∀ (L : Ls) (k j : Nat) (w : Value), (j, w) ∈ k_asc k L ↔ ∃ t, j = k + t ∧ L[t]? = some (some w)
  | [], k, j, w => by simp [k_asc]
  | none :: L, k, j, w => by
    rw [k_asc, k_asc_mem L]
    constructor
    · rintro ⟨t, rfl, h⟩
      exact ⟨t + 1, by omega, by simpa using h⟩
    · rintro ⟨t, rfl, h⟩
      cases t with
      | zero => simp at h
      | succ t => exact ⟨t, by omega, by simpa using h⟩
  | some v :: L, k, j, w => by
    rw [k_asc, List.mem_cons, k_asc_mem L]
    constructor
    · rintro (h | ⟨t, rfl, h⟩)
      · cases h
        exact ⟨0, by omega, by simp⟩
      · exact ⟨t + 1, by omega, by simpa using h⟩
    · rintro ⟨t, rfl, h⟩
      cases t with
      | zero =>
        simp at h
        subst h
        exact Or.inl rfl
      | succ t => exact Or.inr ⟨t, by omega, by simpa using h⟩
theorem k_has {ls : Array Slot} {n : Nat} {L : Ls} {i : Nat} {v : Value} (h : lv_has ls n (k_asc 0 L)) (hi : L[i]? = some (some v)) : ls[i]? = some (.val v) :=
  h.2.2 (i, v) ((k_asc_mem L 0 i v).mpr ⟨i, by omega, hi⟩)
/-- what is left of a place when the next one is written -/
def k_kz : Option Value → Option Value
  | some (.long _) => none
  | some (.double _) => none
  | o => o
def k_sv : Nat → Value → Ls → Ls
  | _, _, [] => []
  | 0, v, _ :: L => some v :: L
  | 1, v, o :: L => k_kz o :: k_sv 0 v L
  | n + 2, v, o :: L => o :: k_sv (n + 1) v L
def k_cl : Nat → Ls → Ls
  | _, [] => []
  | 0, _ :: L => none :: L
  | n + 1, o :: L => o :: k_cl n L
theorem k_kz_some {o : Option Value} {w : Value} (h : k_kz o = some w) : o = some w ∧ ¬ w.category = 2 := by
  cases o with
  | none => cases h
  | some x => cases x <;> simp [k_kz] at h <;> subst h <;> simp [Value.category]
theorem k_sv_mem : ∀ (i : Nat) (v : Value) (L : Ls) (j : Nat) (w : Value), (k_sv i v L)[j]? = some (some w) → (j = i ∧ w = v) ∨ (¬ j = i ∧ L[j]? = some (some w) ∧ ¬ (j + 1 = i ∧ w.category = 2))
  | _, _, [], j, w => by intro h; unfold k_sv at h; simp at h
  | 0, v, o :: L, j, w => by
    intro h
    unfold k_sv at h
    cases j with
    | zero => simp at h; exact Or.inl ⟨rfl, h.symm⟩
    | succ j => exact Or.inr ⟨by omega, by simpa using h, by omega⟩
  | 1, v, o :: L, j, w => by
    intro h
    unfold k_sv at h
    cases j with
    | zero =>
      simp at h
      obtain ⟨h1, h2⟩ := k_kz_some h
      subst h1
      exact Or.inr ⟨by omega, by simp, fun q => h2 q.2⟩
    | succ j =>
      rcases k_sv_mem 0 v L j w (by simpa using h) with ⟨e, e2⟩ | ⟨e, e2, -⟩
      · exact Or.inl ⟨by omega, e2⟩
      · exact Or.inr ⟨by omega, by simpa using e2, by omega⟩
  | n + 2, v, o :: L, j, w => by
    intro h
    unfold k_sv at h
    cases j with
    | zero => exact Or.inr ⟨by omega, by simpa using h, by omega⟩
    | succ j =>
      rcases k_sv_mem (n + 1) v L j w (by simpa using h) with ⟨e, e2⟩ | ⟨e, e2, e3⟩
      · exact Or.inl ⟨by omega, e2⟩
      · exact Or.inr ⟨by omega, by simpa using e2, fun q => e3 ⟨by omega, q.2⟩⟩
theorem k_cl_mem : ∀ (i : Nat) (L : Ls) (j : Nat) (w : Value), (k_cl i L)[j]? = some (some w) → ¬ j = i ∧ L[j]? = some (some w)
  | _, [], j, w => by intro h; unfold k_cl at h; simp at h
  | 0, o :: L, j, w => by
    intro h
    unfold k_cl at h
    cases j with
    | zero => simp at h
    | succ j => exact ⟨by omega, by simpa using h⟩
  | n + 1, o :: L, j, w => by
    intro h
    unfold k_cl at h
    cases j with
    | zero => exact ⟨by omega, by simpa using h⟩
    | succ j =>
      obtain ⟨e, e2⟩ := k_cl_mem n L j w (by simpa using h)
      exact ⟨by omega, by simpa using e2⟩
theorem k_has_sv {ls : Array Slot} {n i : Nat} {v : Value} {L : Ls} (h : lv_has ls n ((i, v) :: (k_asc 0 L).filter (fun q => !(q.1 == i) && !(q.1 + 1 == i && q.2.category == 2)))) : lv_has ls n (k_asc 0 (k_sv i v L)) := by
  refine ⟨h.1, h.2.1, fun q hq => h.2.2 q ?_⟩
  obtain ⟨j, w⟩ := q
  obtain ⟨t, ht, h1⟩ := (k_asc_mem _ 0 j w).mp hq
  have ht : j = t := by omega
  subst ht
  rcases k_sv_mem i v L j w h1 with ⟨rfl, rfl⟩ | ⟨e1, e2, e3⟩
  · exact List.mem_cons_self
  · refine List.mem_cons_of_mem _ (List.mem_filter.mpr ⟨(k_asc_mem L 0 j w).mpr ⟨j, by omega, e2⟩, ?_⟩)
    simp [e1]
    exact Decidable.not_and_iff_or_not.mp e3
theorem k_has_sv2 {ls : Array Slot} {n i : Nat} {v : Value} {L : Ls} (h : lv_has ls n ((i, v) :: (k_asc 0 L).filter (fun q => !(q.1 == i) && (!(q.1 == i + 1) && !(q.1 + 1 == i && q.2.category == 2))))) : lv_has ls n (k_asc 0 (k_cl (i + 1) (k_sv i v L))) := by
  refine ⟨h.1, h.2.1, fun q hq => h.2.2 q ?_⟩
  obtain ⟨j, w⟩ := q
  obtain ⟨t, ht, h1⟩ := (k_asc_mem _ 0 j w).mp hq
  have ht : j = t := by omega
  subst ht
  obtain ⟨e0, h1⟩ := k_cl_mem _ _ j w h1
  rcases k_sv_mem i v L j w h1 with ⟨rfl, rfl⟩ | ⟨e1, e2, e3⟩
  · exact List.mem_cons_self
  · refine List.mem_cons_of_mem _ (List.mem_filter.mpr ⟨(k_asc_mem L 0 j w).mpr ⟨j, by omega, e2⟩, ?_⟩)
    simp [e1, e0]
    exact Decidable.not_and_iff_or_not.mp e3
/-- the cells: 0 the class, 1 its trees, 2 its state, 3 its undo stack, 4 cells, 5 rows -/
def k_W (ad : Nat → Nat) (cI cL : ClassId) (M : Mm) : va_W :=
  [(ad 0, .inr (3, [.ref (ad 1), .ref (ad 2), .ref (ad 3)])),
   (ad 1, .inr (1, [.ref (ad 2)])),
   (ad 2, .inr (0, [.ref (ad 4)])),
   (ad 3, .inr (2, [.ref (ad 5), .int (M.1 4 0), .int (M.1 4 1)])),
   (ad 4, .inl (cI, 459, .inl (M.1 0))),
   (ad 5, .inl (cI, 1836, .inl (M.1 1)))]
def k_up (M : Mm) (a j : Nat) (v : Int32) : Mm := (fun b => if b = a then upd (M.1 b) j v else M.1 b, M.2)
def k_uL (M : Mm) (j : Nat) (v : Int64) : Mm := (M.1, vp_updL M.2 j v)
abbrev Cx : Type := Program × Launch × Env × Room × State × MethodId × Array Value × List Frame × Method × Code × (State → Prop) × va_G × ClassId × ClassId × (Nat → Prop) × Heap × Nat × Nat
def k_G : List Cond := lw_tbl.filter goodWord
theorem k_gm {w : Cond} (i : Nat) (h : lw_tbl[i]? = some w) (hg : goodWord w = true) : w ∈ k_G := List.mem_filter.mpr ⟨List.mem_of_getElem? h, hg⟩
theorem k_good : GoodIn k_G k_G := fun w h => ⟨h, good_of_word (List.mem_filter.mp h).2⟩
def k_V (ad : Nat → Nat) (X : Cx) (pc : Nat) (L : Ls) (st : List Value) (M : Mm) : Prop := match X with
  | (p, l, e, R, s, m, args, below, meth, c, Q, D, cI, cL, A0, H0, ck, cn) => ∀ (H : Heap) (locs : List Loc) (ls : Array Slot), va_P D vwCl (k_W ad cI cL M) H → va_S A0 H0 H locs → lv_has ls c.maxLocals (k_asc 0 L) → W p l e R s m args below meth c H locs ck cn Q (F0 m pc ls st)
def k_C (ad : Nat → Nat) (X : Cx) (cc : ByteArray) (own : String) (nL fr lo : Nat) : Prop := match X with
  | (p, l, e, R, s, m, args, below, meth, c, Q, D, cI, cL, A0, H0, ck, cn) => p.tables.exec = Jvm.exec ∧ c.code = cc ∧ c.maxLocals = nL ∧ s.vm.findClass own = some m.cls ∧ (∀ w ∈ k_G, w.before args s = true) ∧ va_K D vwCl [(cI, .int)] s ∧ (∀ M, va_D A0 (k_W ad cI cL M)) ∧ (∀ q, H0.size ≤ q → A0 q) ∧ (fr ≤ R.frames ∧ lo ≤ R.locals ∧ ck ≤ R.cells ∧ cn ≤ R.slots)
def Sd (ad : Nat → Nat) (X : Cx) (pc : Nat) (t : Tr) : Prop := ∀ L st M, t L st M → k_V ad X pc L st M
/-! the trees -/
def tt_c (v : Int32) (t : Tr) : Tr := fun L st M => t L (.int v :: st) M
def tt_lc (v : Int64) (t : Tr) : Tr := fun L st M => t L (.long v :: st) M
def tt_il (i : Nat) (t : Tr) : Tr := fun L st M => match L[i]? with
  | some (some (.int x)) => t L (.int x :: st) M
  | _ => False
def tt_ll (i : Nat) (t : Tr) : Tr := fun L st M => match L[i]? with
  | some (some (.long x)) => t L (.long x :: st) M
  | _ => False
def tt_al (i : Nat) (t : Tr) : Tr := fun L st M => match L[i]? with
  | some (some (.ref x)) => t L (.ref x :: st) M
  | _ => False
def tt_is (i : Nat) (t : Tr) : Tr := fun L st M => match st with
  | .int x :: st => t (k_sv i (.int x) L) st M
  | _ => False
def tt_lsv (i : Nat) (t : Tr) : Tr := fun L st M => match st with
  | .long x :: st => t (k_cl (i + 1) (k_sv i (.long x) L)) st M
  | _ => False
def tt_as (i : Nat) (t : Tr) : Tr := fun L st M => match st with
  | .ref x :: st => t (k_sv i (.ref x) L) st M
  | _ => False
def tt_inc (i : Nat) (k : Int32) (t : Tr) : Tr := fun L st M => match L[i]? with
  | some (some (.int x)) => t (k_sv i (.int (x + k)) L) st M
  | _ => False
def tt_add (t : Tr) : Tr := fun L st M => match st with
  | .int y :: .int x :: st => t L (.int (x + y) :: st) M
  | _ => False
def tt_sub (t : Tr) : Tr := fun L st M => match st with
  | .int y :: .int x :: st => t L (.int (x - y) :: st) M
  | _ => False
def tt_mul (t : Tr) : Tr := fun L st M => match st with
  | .int y :: .int x :: st => t L (.int (x * y) :: st) M
  | _ => False
def tt_and (t : Tr) : Tr := fun L st M => match st with
  | .int y :: .int x :: st => t L (.int (x &&& y) :: st) M
  | _ => False
def tt_ladd (t : Tr) : Tr := fun L st M => match st with
  | .long y :: .long x :: st => t L (.long (x + y) :: st) M
  | _ => False
def tt_lmul (t : Tr) : Tr := fun L st M => match st with
  | .long y :: .long x :: st => t L (.long (x * y) :: st) M
  | _ => False
def tt_i2l (t : Tr) : Tr := fun L st M => match st with
  | .int x :: st => t L (.long x.toInt64 :: st) M
  | _ => False
def tt_lcmp (t : Tr) : Tr := fun L st M => match st with
  | .long y :: .long x :: st => t L (.int (lg_cmp x y) :: st) M
  | _ => False
def tt_dupr (t : Tr) : Tr := fun L st M => match st with
  | .ref x :: st => t L (.ref x :: .ref x :: st) M
  | _ => False
def tt_dup2 (t : Tr) : Tr := fun L st M => match st with
  | .int x :: .ref y :: st => t L (.int x :: .ref y :: .int x :: .ref y :: st) M
  | _ => False
def tt_eq0 (a b : Tr) : Tr := fun L st M => match st with
  | .int x :: st => (x = 0 → a L st M) ∧ (¬ x = 0 → b L st M)
  | _ => False
def tt_lt0 (a b : Tr) : Tr := fun L st M => match st with
  | .int x :: st => (x < 0 → a L st M) ∧ (¬ x < 0 → b L st M)
  | _ => False
def tt_le0 (a b : Tr) : Tr := fun L st M => match st with
  | .int x :: st => (x ≤ 0 → a L st M) ∧ (¬ x ≤ 0 → b L st M)
  | _ => False
def tt_ge0 (a b : Tr) : Tr := fun L st M => match st with
  | .int x :: st => (0 ≤ x → a L st M) ∧ (¬ 0 ≤ x → b L st M)
  | _ => False
def tt_gt0 (a b : Tr) : Tr := fun L st M => match st with
  | .int x :: st => (0 < x → a L st M) ∧ (¬ 0 < x → b L st M)
  | _ => False
def tt_eq2 (a b : Tr) : Tr := fun L st M => match st with
  | .int y :: .int x :: st => (x = y → a L st M) ∧ (¬ x = y → b L st M)
  | _ => False
def tt_lt2 (a b : Tr) : Tr := fun L st M => match st with
  | .int y :: .int x :: st => (x < y → a L st M) ∧ (¬ x < y → b L st M)
  | _ => False
def tt_ge2 (a b : Tr) : Tr := fun L st M => match st with
  | .int y :: .int x :: st => (y ≤ x → a L st M) ∧ (¬ y ≤ x → b L st M)
  | _ => False
def tt_gt2 (a b : Tr) : Tr := fun L st M => match st with
  | .int y :: .int x :: st => (y < x → a L st M) ∧ (¬ y < x → b L st M)
  | _ => False
def tt_le2 (a b : Tr) : Tr := fun L st M => match st with
  | .int y :: .int x :: st => (x ≤ y → a L st M) ∧ (¬ x ≤ y → b L st M)
  | _ => False
/-- a reference field of the cell o, which holds the cell o2 -/
def tt_gr (ad : Nat → Nat) (o o2 : Nat) (t : Tr) : Tr := fun L st M => match st with
  | .ref a :: st => a = ad o ∧ t L (.ref (ad o2) :: st) M
  | _ => False
/-- an int field: the place j of the numbers' row 4 -/
def tt_gi (ad : Nat → Nat) (o j : Nat) (t : Tr) : Tr := fun L st M => match st with
  | .ref a :: st => a = ad o ∧ t L (.int (M.1 4 j) :: st) M
  | _ => False
def tt_pi (ad : Nat → Nat) (o j : Nat) (t : Tr) : Tr := fun L st M => match st with
  | .int v :: .ref a :: st => a = ad o ∧ t L st (k_up M 4 j v)
  | _ => False
def tt_gl (ad : Nat → Nat) (t : Tr) : Tr := fun L st M => match st with
  | .ref a :: st => a = ad 6 ∧ t L (.long (M.2 0) :: st) M
  | _ => False
def tt_pl (ad : Nat → Nat) (t : Tr) : Tr := fun L st M => match st with
  | .long v :: .ref a :: st => a = ad 6 ∧ t L st (k_uL M 0 v)
  | _ => False
/-- an int row: the cell o of n places is the numbers' row r -/
def tt_ia (ad : Nat → Nat) (o n r : Nat) (t : Tr) : Tr := fun L st M => match st with
  | .int i :: .ref a :: st => a = ad o ∧ vp_in i n ∧ t L (.int (M.1 r i.toNatClampNeg) :: st) M
  | _ => False
def tt_st (ad : Nat → Nat) (o n r : Nat) (t : Tr) : Tr := fun L st M => match st with
  | .int x :: .int i :: .ref a :: st => a = ad o ∧ vp_in i n ∧ t L st (k_up M r i.toNatClampNeg x)
  | _ => False
def tt_ir (res : Rs) : Tr := fun _ st M => match st with
  | [.int v] => res = .inl (some (.int v), M)
  | _ => False
def tt_zr (res : Rs) : Tr := fun _ st M => match st with
  | [.int v] => (v = 0 ∨ v = 1) ∧ res = .inl (some (.int v), M)
  | _ => False
def tt_lr (res : Rs) : Tr := fun _ st M => match st with
  | [.long v] => res = .inl (some (.long v), M)
  | _ => False
def tt_vr (res : Rs) : Tr := fun _ st M => match st with
  | [] => res = .inl (none, M)
  | _ => False
def tt_it (B : Tr → Tr) : Nat → Tr
  | 0 => fun _ _ _ => False
  | n + 1 => B (tt_it B n)
def tt_lp (B : Tr → Tr) : Tr := fun L st M => ∃ n, tt_it B n L st M
def tt_cv (ad : Nat → Nat) (o n : Nat) (F : Sp) (t : Tr) : Tr := fun L st M => match st.drop n with
  | .ref a :: rest => a = ad o ∧ rest.length ≤ 4 ∧ (match F (st.take n).reverse M with
    | some (.inl r) => t L (r.1.toList ++ rest) r.2
    | _ => False)
  | _ => False
def tt_cs (n : Nat) (F : Sp) (t : Tr) : Tr := fun L st M => n ≤ st.length ∧ (st.drop n).length ≤ 4 ∧ (match F (st.take n).reverse M with
    | some (.inl r) => t L (r.1.toList ++ st.drop n) r.2
    | _ => False)
def tt_max (t : Tr) : Tr := fun L st M => match st with
  | .int y :: .int x :: st => st.length ≤ 4 ∧ t L (.int (if x < y then y else x) :: st) M
  | _ => False
def tt_min (t : Tr) : Tr := fun L st M => match st with
  | .int y :: .int x :: st => st.length ≤ 4 ∧ t L (.int (if y < x then y else x) :: st) M
  | _ => False

/-! THE CLAIM OUT OF ONE WALK OF THE LAW'S BODY. Your part is whole_start (and what it stands on); all else here is the same for every law, but numbers. -/
def R_law : String := "StripeTreesLaw"
def lw_P (b : Addr) (xs : List Int32) (args : Array Value) (s : State) : Prop := args = #[.ref b] ∧ s.IntsAt b xs ∧ xs.length ≤ 2048 ∧ (Jvm.Cond.and given_1 narrow_1).before args s = true
def lw_Q (_ : Array Value) (s : State) (o : Outcome) (t : State) : Prop := o = .returned (some (.int 1)) ∧ Framed s o t [] 1043 12530
def lw_Z (below : List Frame) (a : Array Value) (s : State) : State → Prop := fun t => ∃ o, t.status = .running ∧ Ended t below o ∧ lw_Q a s o t
/-- the law's own end, with 1 on the stack, nothing written that was there before, its room as the claim has it -/
theorem lw_ret {p : Program} {l : Launch} {e : Env} {s : State} {m : MethodId} {below : List Frame} {meth : Method} {c : Code} {b : Nat} (hx : p.tables.exec = Jvm.exec) (hb : c.code = code) (hr : meth.sig.returnType = ret) (hlocks : meth.locks = false) {pc : Nat} {H : Heap} {ls : Array Slot} (hdg : decode code pc = .ok (.ireturn, 1)) : W p l e room_1 s m #[Value.ref b] below meth c H [] 1043 12530 (lw_Z below #[Value.ref b] s) (F0 m pc ls [.int 1]) := by
  intro T hT X
  obtain ⟨fs, hret, hrun, hended, hW, hframe⟩ := X.leave (v := some (.int 1)) (hlocks := hlocks) (fun h => by rw [hr] at h; cases h)
  have hmeth' : T.vm.method? m = some meth := X.method'
  refine ⟨T.setFrames fs, ?_, .returned (some (.int 1)), hrun, hended, rfl, ⟨_, rfl⟩, hW, hframe⟩
  jvm_step X.here [X.here.top, hx, hb, hdg, hmeth', hr, ret, narrow_b1]
  (try refine ⟨rfl, ?_⟩); (try refine ⟨rfl, ?_⟩)
  first | (intro acts; rw [hret _ acts rfl rfl rfl]) | rw [hret _ _ rfl rfl rfl]
  exact Steps.refl _
/-- what holds at the law's entry: the machine, the code, the tables' words (any of lw_tbl by 'hts w (by decide +kernel)'), the script of L ints xs at the cell b, what the Statement gives of the start (any of its parts by flat_of_before) -/
def lw_At (p : Program) (s : State) (m : MethodId) (meth : Method) (c : Code) (b L : Nat) (xs : Nat → Int32) : Prop :=
  p.tables.exec = Jvm.exec ∧ c.code = code ∧ meth.sig.returnType = ret ∧ c.maxLocals = 7 ∧ s.vm.findClass R_law = some m.cls ∧ (∀ w ∈ lw_tbl, w.before #[Value.ref b] s = true) ∧ va_X b L xs s s.heap ∧ b < s.heap.size ∧ meth.locks = false ∧ (Jvm.Cond.and given_1 narrow_1).before #[Value.ref b] s = true
theorem k_WD0 {ad : Nat → Nat} (hI : k_I ad) {A : Nat → Prop} (hA : ∀ k, k < 10 → A (ad k)) (cI cL : ClassId) (M : Mm) : va_D A (k_W ad cI cL M) := by
  refine ⟨fun i j p q hi hj hpq => ?_, fun k q hk => ?_⟩
  · obtain ⟨h1, h2⟩ := k_Wq hi
    obtain ⟨h3, h4⟩ := k_Wq hj
    exact hI i j h1 h3 (by rw [← h2, ← h4]; exact hpq)
  · obtain ⟨h1, h2⟩ := k_Wq hk
    rw [h2]
    exact hA k h1
theorem law_loop {p : Program} {l : Launch} {e : Env} {s : State} {m : MethodId} {below : List Frame} {meth : Method} {c : Code} {D : va_G} {cI cL : ClassId} {ad : Nat → Nat} {b L : Nat} {xs : Nat → Int32} (hI : k_I ad) (hf : l.stackTraces = false) (hL : L ≤ 2048) (C0 : lw_At p s m meth c b L xs) (hK : va_K D vwCl [(cI, .int), (cL, .long)] s) (hA : ∀ k, k < 10 → s.heap.size ≤ ad k) (hZ : k_Z2 (fun q : Nat => s.heap.size ≤ q) s s.heap) :
    ∀ (r ck cn : Nat), ck + r ≤ 1043 → cn + 6 * r ≤ 12530 → Sd ad (p, l, e, room_1, s, m, #[Value.ref b], below, meth, c, lw_Z below #[Value.ref b] s, D, cI, cL, (fun q : Nat => s.heap.size ≤ q), s.heap, ck, cn) 23 (k_TT ad b L r) := by
  obtain ⟨hx, hb, hr, hml, hown, hts, hX, hbl, hlocks, hgv⟩ := id C0
  intro r
  induction r with
  | zero =>
    intro ck cn h1 h2 F st M h
    obtain ⟨i, y, z, -, -, -, q1, q2⟩ := h
    exact absurd q2 (by omega)
  | succ r ih =>
    intro ck cn h1 h2 F st M h
    have C : k_C ad (p, l, e, room_1, s, m, #[Value.ref b], below, meth, c, lw_Z below #[Value.ref b] s, D, cI, cL, (fun q : Nat => s.heap.size ≤ q), s.heap, ck, cn) cL_law RL 7 13 296 := ⟨hx, hb, hml, hown, fun w hw => hts w (List.mem_filter.mp hw).1, hK, fun M => k_WD0 hI hA cI cL M, fun q hq => hq, Nat.le_of_ble_eq_true rfl, Nat.le_of_ble_eq_true rfl, (by show ck ≤ 1043; omega), (by show cn ≤ 12530; omega)⟩
    have T : k_TL (p, l, e, room_1, s, m, #[Value.ref b], below, meth, c, lw_Z below #[Value.ref b] s, D, cI, cL, (fun q : Nat => s.heap.size ≤ q), s.heap, ck, cn) := ⟨hZ, rfl, (by show ck + 1 ≤ 1043; omega), (by show cn + 6 ≤ 12530; omega)⟩
    have SC : k_SC (p, l, e, room_1, s, m, #[Value.ref b], below, meth, c, lw_Z below #[Value.ref b] s, D, cI, cL, (fun q : Nat => s.heap.size ≤ q), s.heap, ck, cn) b L xs := ⟨hX, hbl, Nat.not_le.mpr hbl⟩
    have hex : Sd ad (p, l, e, room_1, s, m, #[Value.ref b], below, meth, c, lw_Z below #[Value.ref b] s, D, cI, cL, (fun q : Nat => s.heap.size ≤ q), s.heap, ck, cn) 1480 tt_ex := fun F st M hst H locs ls hP hS hl => by
      cases hst
      refine lv_iconst (v := 1) hx hb dL_law_1480 (by decide) ?_
      refine va_forget (fun q hq => hS.2.2 q hq) ?_
      refine W.widen (k := 1043) (n := 12530) (by omega) (by omega) ?_
      exact lw_ret hx hb hr hlocks dL_law_1481
    exact S_head C T SC hex (ih (ck + 1) (cn + 6) (by omega) (by omega)) (k_cvOf rfl ⟨rfl, rfl, rfl⟩ (cc_X3_digest hI hf)) (k_cvOf rfl ⟨rfl, rfl, rfl⟩ (cc_X3_repair hI hf)) (k_cvOf rfl ⟨rfl, rfl, rfl⟩ (cc_X3_time hI hf)) (k_cvOf rfl ⟨rfl, rfl, rfl⟩ (cc_X4_child hI hf)) (k_cvOf rfl ⟨rfl, rfl, rfl⟩ (cc_X4_count hI hf)) (k_cvOf rfl ⟨rfl, rfl, rfl⟩ (cc_X4_depth hI hf)) (k_cvOf rfl ⟨rfl, rfl, rfl⟩ (cc_X4_digest hI hf)) (k_cvOf rfl ⟨rfl, rfl, rfl⟩ (cc_X4_fail hI hf)) (k_cvOf rfl ⟨rfl, rfl, rfl⟩ (cc_X4_harm hI hf)) (k_cvOf rfl ⟨rfl, rfl, rfl⟩ (cc_X4_hasRoom hI hf)) (k_cvOf rfl ⟨rfl, rfl, rfl⟩ (cc_X4_join hI hf)) (k_cvOf rfl ⟨rfl, rfl, rfl⟩ (cc_X4_leave hI hf)) (k_cvOf rfl ⟨rfl, rfl, rfl⟩ (cc_X4_member hI hf)) (k_cvOf rfl ⟨rfl, rfl, rfl⟩ (cc_X4_parent hI hf)) (k_cvOf rfl ⟨rfl, rfl, rfl⟩ (cc_X4_pieces hI hf)) (k_cvOf rfl ⟨rfl, rfl, rfl⟩ (cc_X4_ranksBefore hI hf)) (k_cvOf rfl ⟨rfl, rfl, rfl⟩ (cc_X4_rejoin hI hf)) (k_cvOf rfl ⟨rfl, rfl, rfl⟩ (cc_X4_repair hI hf)) (k_cvOf rfl ⟨rfl, rfl, rfl⟩ (cc_X4_setBound hI hf)) (k_cvOf rfl ⟨rfl, rfl, rfl⟩ (cc_X4_setDelay hI hf)) (k_cvOf rfl ⟨rfl, rfl, rfl⟩ (cc_X4_setSource hI hf)) (k_cvOf rfl ⟨rfl, rfl, rfl⟩ (cc_X4_stripe hI hf)) (k_cvOf rfl ⟨rfl, rfl, rfl⟩ (cc_X4_subtree hI hf)) (k_cvOf rfl ⟨rfl, rfl, rfl⟩ (cc_X4_thrown hI hf)) (k_cvOf rfl ⟨rfl, rfl, rfl⟩ (cc_X4_tick hI hf)) (k_cvOf rfl ⟨rfl, rfl, rfl⟩ (cc_X4_time hI hf)) (k_cvOf rfl ⟨rfl, rfl, rfl⟩ (cc_X4_undo hI hf)) (wr_child hI hf) (wr_count hI hf) (wr_depth hI hf) (wr_fail hI hf) (wr_harm hI hf) (wr_hasRoom hI hf) (wr_join hI hf) (wr_leave hI hf) (wr_member hI hf) (wr_parent hI hf) (wr_pieces hI hf) (wr_ranksBefore hI hf) (wr_rejoin hI hf) (wr_setBound hI hf) (wr_setDelay hI hf) (wr_setSource hI hf) (wr_stripe hI hf) (wr_subtree hI hf) (wr_tick hI hf) (wr_undo hI hf) F st M (B_head hL F st M h)
theorem k_str {s : State} {args : Array Value} {k : Nat} {tx : String} (h1 : (Cond.stringRef RX3 k tx).before args s = true) (h2 : (Cond.exactly (.string RX3 k) "java/lang/String").before args s = true) : ∃ sa, vk_R RX3 k tx sa s := by
  obtain ⟨a, c, cell, kk, q1, -⟩ := Cond.exactly_spec (args := args) (first := s) (o := none) (s := s) (idx := []) h2
  exact ⟨a, vk_R.of h1 q1⟩
theorem k_Zst {s : State} {args : Array Value} (ht : ∀ w ∈ lw_tbl, w.before args s = true) (hg : (Jvm.Cond.and given_1 narrow_1).before args s = true) : k_Z2 (fun q : Nat => s.heap.size ≤ q) s s.heap := by
  have hf := flat_of_before _ hg
  refine ⟨⟨?_, ?_, ?_, ?_, ?_⟩, ?_⟩
  · exact vx_Zqof (ht (.laysStatic "java/lang/Throwable" "UNASSIGNED_STACK" "[Ljava/lang/StackTraceElement;") (by decide +kernel)) (ht (.initialized "java/lang/Throwable") (by decide +kernel)) (hf (.isRef (.static "java/lang/Throwable" "UNASSIGNED_STACK" "[Ljava/lang/StackTraceElement;")) (by decide +kernel)) (fun a h9 => Nat.not_le.mpr h9)
  · exact vx_Zqof (ht (.laysStatic "java/lang/Throwable" "SUPPRESSED_SENTINEL" "Ljava/util/List;") (by decide +kernel)) (ht (.initialized "java/lang/Throwable") (by decide +kernel)) (hf (.isRef (.static "java/lang/Throwable" "SUPPRESSED_SENTINEL" "Ljava/util/List;")) (by decide +kernel)) (fun a h9 => Nat.not_le.mpr h9)
  · intro q hq
    simp only [k_strs, List.mem_cons, List.not_mem_nil, or_false] at hq
    rcases hq with rfl | rfl | rfl | rfl | rfl | rfl | rfl | rfl | rfl
    · exact k_str (ht (.stringRef "StripeTrees" 216 "there is no such member") (by decide +kernel)) (hf (.exactly (.string "StripeTrees" 216) "java/lang/String") (by decide +kernel))
    · exact k_str (ht (.stringRef "StripeTrees" 223 "the member has not joined") (by decide +kernel)) (hf (.exactly (.string "StripeTrees" 223) "java/lang/String") (by decide +kernel))
    · exact k_str (ht (.stringRef "StripeTrees" 219 "there is no such stripe") (by decide +kernel)) (hf (.exactly (.string "StripeTrees" 219) "java/lang/String") (by decide +kernel))
    · exact k_str (ht (.stringRef "StripeTrees" 221 "a value is out of range") (by decide +kernel)) (hf (.exactly (.string "StripeTrees" 221) "java/lang/String") (by decide +kernel))
    · exact k_str (ht (.stringRef "StripeTrees" 42 "the member has joined already") (by decide +kernel)) (hf (.exactly (.string "StripeTrees" 42) "java/lang/String") (by decide +kernel))
    · exact k_str (ht (.stringRef "StripeTrees" 76 "the member has failed already") (by decide +kernel)) (hf (.exactly (.string "StripeTrees" 76) "java/lang/String") (by decide +kernel))
    · exact k_str (ht (.stringRef "StripeTrees" 135 "the index is negative") (by decide +kernel)) (hf (.exactly (.string "StripeTrees" 135) "java/lang/String") (by decide +kernel))
    · exact k_str (ht (.stringRef "StripeTrees" 152 "a member does not rank before itself") (by decide +kernel)) (hf (.exactly (.string "StripeTrees" 152) "java/lang/String") (by decide +kernel))
    · exact k_str (ht (.stringRef "StripeTrees" 185 "the undo stack is empty") (by decide +kernel)) (hf (.exactly (.string "StripeTrees" 185) "java/lang/String") (by decide +kernel))
  · intro E hE
    simp only [List.mem_cons, List.not_mem_nil, or_false] at hE
    rcases hE with rfl | rfl | rfl
    · exact va_Nw.of rfl (ht (.castable "java/lang/IllegalStateException" "java/lang/IllegalStateException") (by decide +kernel))
    · exact va_Nw.of rfl (ht (.castable "java/lang/IllegalArgumentException" "java/lang/IllegalArgumentException") (by decide +kernel))
    · exact va_Nw.of rfl (ht (.castable "java/lang/IndexOutOfBoundsException" "java/lang/IndexOutOfBoundsException") (by decide +kernel))
  · intro x hx
    simp only [k_decl, List.mem_cons, List.not_mem_nil, or_false] at hx
    rcases hx with rfl | rfl | rfl | rfl | rfl | rfl
    · exact va_Nw.of rfl (ht (.declares ⟨"java/lang/RuntimeException", "<init>", "()V"⟩) (by decide +kernel))
    · exact va_Nw.of rfl (ht (.declares ⟨"java/lang/RuntimeException", "<init>", "(Ljava/lang/String;)V"⟩) (by decide +kernel))
    · exact va_Nw.of rfl (ht (.declares ⟨"java/lang/Exception", "<init>", "()V"⟩) (by decide +kernel))
    · exact va_Nw.of rfl (ht (.declares ⟨"java/lang/Exception", "<init>", "(Ljava/lang/String;)V"⟩) (by decide +kernel))
    · exact va_Nw.of rfl (ht (.declares ⟨"java/lang/Throwable", "<init>", "()V"⟩) (by decide +kernel))
    · exact va_Nw.of rfl (ht (.declares ⟨"java/lang/Throwable", "<init>", "(Ljava/lang/String;)V"⟩) (by decide +kernel))
  · intro q hq
    simp only [k_ncs, List.mem_cons, List.not_mem_nil, or_false] at hq
    rcases hq with rfl | rfl | rfl
    · exact va_Nc.of (hf (.not (.castable "java/lang/IllegalArgumentException" "java/lang/IndexOutOfBoundsException")) (by decide +kernel))
    · exact va_Nc.of (hf (.not (.castable "java/lang/IllegalStateException" "java/lang/IndexOutOfBoundsException")) (by decide +kernel))
    · exact va_Nc.of (hf (.not (.castable "java/lang/IllegalStateException" "java/lang/IllegalArgumentException")) (by decide +kernel))

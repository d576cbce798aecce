/-! THE CLAIM OUT OF ONE WALK OF THE LAW'S BODY. Your part is whole_start (and what it stands on); all else here is the same for every law, but numbers. -/
def R_law : String := "StripeTreesLaw"
def lw_P (b : Addr) (xs : List Int32) (args : Array Value) (s : State) : Prop := args = #[.ref b] ∧ s.IntsAt b xs ∧ xs.length ≤ 260 ∧ (Jvm.Cond.and given_1 narrow_1).before args s = true
def lw_Q (_ : Array Value) (s : State) (o : Outcome) (t : State) : Prop := o = .returned (some (.int 1)) ∧ Framed s o t [] 145 3397
def lw_Z (below : List Frame) (a : Array Value) (s : State) : State → Prop := fun t => ∃ o, t.status = .running ∧ Ended t below o ∧ lw_Q a s o t
/-- the law's own end, with 1 on the stack, nothing written that was there before, its room as the claim has it -/
theorem lw_ret {p : Program} {l : Launch} {e : Env} {s : State} {m : MethodId} {below : List Frame} {meth : Method} {c : Code} {b : Nat} (hx : p.tables.exec = Jvm.exec) (hb : c.code = code) (hr : meth.sig.returnType = ret) (hlocks : meth.locks = false) {pc : Nat} {H : Heap} {ls : Array Slot} (hdg : decode code pc = .ok (.ireturn, 1)) : W p l e room_1 s m #[Value.ref b] below meth c H [] 145 3397 (lw_Z below #[Value.ref b] s) (F0 m pc ls [.int 1]) := by
  intro T hT X
  obtain ⟨fs, hret, hrun, hended, hW, hframe⟩ := X.leave (v := some (.int 1)) (hlocks := hlocks) (fun h => by rw [hr] at h; cases h)
  have hmeth' : T.vm.method? m = some meth := X.method'
  refine ⟨T.setFrames fs, ?_, .returned (some (.int 1)), hrun, hended, rfl, ⟨_, rfl⟩, hW, hframe⟩
  jvm_step X.here [X.here.top, hx, hb, hdg, hmeth', hr, ret, narrow_b1]
  (try refine ⟨rfl, ?_⟩); (try refine ⟨rfl, ?_⟩)
  first | (intro acts; rw [hret _ acts rfl rfl rfl]) | rw [hret _ _ rfl rfl rfl]
  exact Steps.refl _
/-- what holds at the law's entry: the machine, the code, the tables' words (any of lw_tbl by 'hts w (by decide +kernel)'), the script of L ints xs at the cell b, what the Statement gives of the start (any of its parts by flat_of_before) -/
def lw_At (p : Program) (s : State) (m : MethodId) (meth : Method) (c : Code) (b L : Nat) (xs : Nat → Int32) : Prop :=
  p.tables.exec = Jvm.exec ∧ c.code = code ∧ meth.sig.returnType = ret ∧ c.maxLocals = 13 ∧ s.vm.findClass R_law = some m.cls ∧ (∀ w ∈ lw_tbl, w.before #[Value.ref b] s = true) ∧ va_X b L xs s s.heap ∧ b < s.heap.size ∧ meth.locks = false ∧ (Jvm.Cond.and given_1 narrow_1).before #[Value.ref b] s = true
theorem k_WD0 {ad : Nat → Nat} (hI : k_I ad) {A : Nat → Prop} (hA : ∀ k, k < 6 → A (ad k)) (cI cL : ClassId) (M : Mm) : va_D A (k_W ad cI cL M) := by
  refine ⟨fun i j p q hi hj hpq => ?_, fun k q hk => ?_⟩
  · obtain ⟨h1, h2⟩ := k_Wq hi
    obtain ⟨h3, h4⟩ := k_Wq hj
    exact hI i j h1 h3 (by rw [← h2, ← h4]; exact hpq)
  · obtain ⟨h1, h2⟩ := k_Wq hk
    rw [h2]
    exact hA k h1
section LO
variable {p : Program} {l : Launch} {e : Env} {s : State} {m : MethodId} {below : List Frame} {meth : Method} {c : Code} {D : va_G} {cI cL : ClassId} {ad : Nat → Nat} {b L : Nat} {xs : Nat → Int32}
theorem law_C (hI : k_I ad) (C0 : lw_At p s m meth c b L xs) (hK : va_K D vwCl [(cI, .int)] s) (hA : ∀ k, k < 6 → s.heap.size ≤ ad k) {ck cn : Nat} (h1 : ck ≤ 145) (h2 : cn ≤ 3397) : k_C ad (p, l, e, room_1, s, m, #[Value.ref b], below, meth, c, lw_Z below #[Value.ref b] s, D, cI, cL, (fun q : Nat => s.heap.size ≤ q), s.heap, ck, cn) cL_law RL 13 13 494 := by
  obtain ⟨hx, hb, hr, hml, hown, hts, hX, hbl, hlocks, hgv⟩ := C0
  exact ⟨hx, hb, hml, hown, fun w hw => hts w (List.mem_filter.mp hw).1, hK, fun M => k_WD0 hI hA cI cL M, fun q hq => hq, Nat.le_of_ble_eq_true rfl, Nat.le_of_ble_eq_true rfl, h1, h2⟩
theorem law_T {n : Nat} (hZ : k_Z2 (fun q : Nat => s.heap.size ≤ q) s s.heap) {ck cn : Nat} (h1 : ck + n ≤ 145) (h2 : cn + 6 * n ≤ 3397) : k_TLn n (p, l, e, room_1, s, m, #[Value.ref b], below, meth, c, lw_Z below #[Value.ref b] s, D, cI, cL, (fun q : Nat => s.heap.size ≤ q), s.heap, ck, cn) := ⟨hZ, rfl, h1, h2⟩
theorem law_SC (C0 : lw_At p s m meth c b L xs) {ck cn : Nat} : k_SC (p, l, e, room_1, s, m, #[Value.ref b], below, meth, c, lw_Z below #[Value.ref b] s, D, cI, cL, (fun q : Nat => s.heap.size ≤ q), s.heap, ck, cn) b L xs := by
  obtain ⟨hx, hb, hr, hml, hown, hts, hX, hbl, hlocks, hgv⟩ := C0
  exact ⟨hX, hbl, Nat.not_le.mpr hbl⟩
theorem law_ex (C0 : lw_At p s m meth c b L xs) {ck cn : Nat} (h1 : ck + 20 ≤ 145) (h2 : cn + 6 * 20 ≤ 3397) : Sd ad (k_bs 20 (p, l, e, room_1, s, m, #[Value.ref b], below, meth, c, lw_Z below #[Value.ref b] s, D, cI, cL, (fun q : Nat => s.heap.size ≤ q), s.heap, ck, cn)) 531 tt_e1 := by
  obtain ⟨hx, hb, hr, hml, hown, hts, hX, hbl, hlocks, hgv⟩ := C0
  rw [k_bs_eq]
  intro F st M hst H locs ls hP hS hl
  cases hst
  refine va_forget (fun q hq => hS.2.2 q hq) ?_
  refine W.widen (k := 145) (n := 3397) h1 h2 ?_
  exact lw_ret hx hb hr hlocks dL_law_531
theorem law_loop (hI : k_I ad) (hf : l.stackTraces = false) (hL : L ≤ 260) (C0 : lw_At p s m meth c b L xs) (hK : va_K D vwCl [(cI, .int)] s) (hA : ∀ k, k < 6 → s.heap.size ≤ ad k) (hZ : k_Z2 (fun q : Nat => s.heap.size ≤ q) s s.heap) :
    ∀ (r n ck cn : Nat), n + r = 28 → ck + 2 * r + 20 ≤ 145 → cn + 12 * r + 120 ≤ 3397 → Sd ad (p, l, e, room_1, s, m, #[Value.ref b], below, meth, c, lw_Z below #[Value.ref b] s, D, cI, cL, (fun q : Nat => s.heap.size ≤ q), s.heap, ck, cn) 39 (k_TT ad b n) := by
  intro r
  induction r with
  | zero =>
    intro n ck cn hn h1 h2 Lc st M h
    obtain ⟨F, T, g4, g5, g6, g7, g8, g9, g10, g11, g12, a1, a2, rfl, rfl⟩ := h
    obtain rfl : n = 28 := by omega
    have C : k_C ad (p, l, e, room_1, s, m, #[Value.ref b], below, meth, c, lw_Z below #[Value.ref b] s, D, cI, cL, (fun q : Nat => s.heap.size ≤ q), s.heap, ck, cn) cL_law RL 13 13 494 := law_C hI C0 hK hA (by omega) (by omega)
    have TT : k_TLn 20 (p, l, e, room_1, s, m, #[Value.ref b], below, meth, c, lw_Z below #[Value.ref b] s, D, cI, cL, (fun q : Nat => s.heap.size ≤ q), s.heap, ck, cn) := law_T hZ (by omega) (by omega)
    have SC : k_SC (p, l, e, room_1, s, m, #[Value.ref b], below, meth, c, lw_Z below #[Value.ref b] s, D, cI, cL, (fun q : Nat => s.heap.size ≤ q), s.heap, ck, cn) b L xs := law_SC C0
    have hex : Sd ad (k_bs 20 (p, l, e, room_1, s, m, #[Value.ref b], below, meth, c, lw_Z below #[Value.ref b] s, D, cI, cL, (fun q : Nat => s.heap.size ≤ q), s.heap, ck, cn)) 531 tt_e1 := law_ex C0 (by omega) (by omega)
    exact S_law_head (k := tt_no) C TT SC hex ss_no (cc_L_refuses hI hf) (cc_L_cell hI (by omega)) (cc_L_low hI) (k_cvOf rfl ⟨rfl, rfl, rfl⟩ (cc_X3_digest hI hf)) (wr_join hI hf) (cc_L_sound hI hf) (cc_L_ranks hI hf) (k_cvOf rfl ⟨rfl, rfl, rfl⟩ (cc_X3_time hI hf)) (wn_count hI hf) (wn_tick hI hf) (wn_undo hI hf) (wr_leave hI hf) (wr_fail hI hf) (wr_setBound hI hf) (wn_setSource hI hf) (wr_rejoin hI hf) (wn_stripe hI hf) (wn_hasRoom hI hf) (k_cvOf rfl ⟨rfl, rfl, rfl⟩ (cc_X3_repair hI hf)) (wn_setDelay hI hf) _ _ _ (b_last a1)
  | succ r ih =>
    intro n ck cn hn h1 h2 Lc st M h
    obtain ⟨F, T, g4, g5, g6, g7, g8, g9, g10, g11, g12, a1, a2, rfl, rfl⟩ := h
    have C : k_C ad (p, l, e, room_1, s, m, #[Value.ref b], below, meth, c, lw_Z below #[Value.ref b] s, D, cI, cL, (fun q : Nat => s.heap.size ≤ q), s.heap, ck, cn) cL_law RL 13 13 494 := law_C hI C0 hK hA (by omega) (by omega)
    have TT : k_TLn 20 (p, l, e, room_1, s, m, #[Value.ref b], below, meth, c, lw_Z below #[Value.ref b] s, D, cI, cL, (fun q : Nat => s.heap.size ≤ q), s.heap, ck, cn) := law_T hZ (by omega) (by omega)
    have SC : k_SC (p, l, e, room_1, s, m, #[Value.ref b], below, meth, c, lw_Z below #[Value.ref b] s, D, cI, cL, (fun q : Nat => s.heap.size ≤ q), s.heap, ck, cn) b L xs := law_SC C0
    have hex : Sd ad (k_bs 20 (p, l, e, room_1, s, m, #[Value.ref b], below, meth, c, lw_Z below #[Value.ref b] s, D, cI, cL, (fun q : Nat => s.heap.size ≤ q), s.heap, ck, cn)) 531 tt_e1 := law_ex C0 (by omega) (by omega)
    have hk : Sd ad (k_bs 2 (p, l, e, room_1, s, m, #[Value.ref b], below, meth, c, lw_Z below #[Value.ref b] s, D, cI, cL, (fun q : Nat => s.heap.size ≤ q), s.heap, ck, cn)) 39 (k_TT ad b (n + 1)) := by
      rw [k_bs_eq]
      exact ih (n + 1) (ck + 2) (cn + 12) (by omega) (by omega) (by omega)
    exact S_law_head C TT SC hex hk (cc_L_refuses hI hf) (cc_L_cell hI (by omega)) (cc_L_low hI) (k_cvOf rfl ⟨rfl, rfl, rfl⟩ (cc_X3_digest hI hf)) (wr_join hI hf) (cc_L_sound hI hf) (cc_L_ranks hI hf) (k_cvOf rfl ⟨rfl, rfl, rfl⟩ (cc_X3_time hI hf)) (wn_count hI hf) (wn_tick hI hf) (wn_undo hI hf) (wr_leave hI hf) (wr_fail hI hf) (wr_setBound hI hf) (wn_setSource hI hf) (wr_rejoin hI hf) (wn_stripe hI hf) (wn_hasRoom hI hf) (k_cvOf rfl ⟨rfl, rfl, rfl⟩ (cc_X3_repair hI hf)) (wn_setDelay hI hf) _ _ _ (b_head (by omega) a1 a2 (HK_TT ad b n))
theorem law_pre (hI : k_I ad) (hf : l.stackTraces = false) (hL : L ≤ 260) (C0 : lw_At p s m meth c b L xs) (hK : va_K D vwCl [(cI, .int)] s) (hA : ∀ k, k < 6 → s.heap.size ≤ ad k) (hZ : k_Z2 (fun q : Nat => s.heap.size ≤ q) s s.heap) {ck cn : Nat} (h1 : ck = 6) (h2 : cn = 2303) : Sd ad (p, l, e, room_1, s, m, #[Value.ref b], below, meth, c, lw_Z below #[Value.ref b] s, D, cI, cL, (fun q : Nat => s.heap.size ≤ q), s.heap, ck, cn) 10 (fun Lc st M => M = k_M0 ∧ st = [] ∧ Lc = [some (.ref b), some (.ref (ad 0)), some (.int 2), none, none, none, none, none, none, none, none, none, none]) := by
  intro Lc st M h
  obtain ⟨rfl, rfl, rfl⟩ := h
  have C : k_C ad (p, l, e, room_1, s, m, #[Value.ref b], below, meth, c, lw_Z below #[Value.ref b] s, D, cI, cL, (fun q : Nat => s.heap.size ≤ q), s.heap, ck, cn) cL_law RL 13 13 494 := law_C hI C0 hK hA (by omega) (by omega)
  have TT : k_TLn 21 (p, l, e, room_1, s, m, #[Value.ref b], below, meth, c, lw_Z below #[Value.ref b] s, D, cI, cL, (fun q : Nat => s.heap.size ≤ q), s.heap, ck, cn) := law_T hZ (by omega) (by omega)
  have hk : Sd ad (k_bs 21 (p, l, e, room_1, s, m, #[Value.ref b], below, meth, c, lw_Z below #[Value.ref b] s, D, cI, cL, (fun q : Nat => s.heap.size ≤ q), s.heap, ck, cn)) 39 (k_TT ad b 0) := by
    rw [k_bs_eq]
    exact law_loop hI hf hL C0 hK hA hZ 28 0 (ck + 21) (cn + 126) (by omega) (by omega) (by omega)
  exact S_law_pre C TT hk (cc_L_sound hI hf) (wr_undo hI hf) (cc_L_refuses hI hf) _ _ _ (b_pre k0_LI rfl (fun g4 g5 g6 g7 g8 g9 g10 g11 g12 => ⟨2, 0, g4, g5, g6, g7, g8, g9, g10, g11, g12, k0_LI, by omega, rfl, rfl⟩))
end LO
theorem k_str {s : State} {args : Array Value} {k : Nat} {tx : String} (h1 : (Cond.stringRef RX3 k tx).before args s = true) (h2 : (Cond.exactly (.string RX3 k) "java/lang/String").before args s = true) : ∃ sa, vk_R RX3 k tx sa s := by
  obtain ⟨a, c, cell, kk, q1, -⟩ := Cond.exactly_spec (args := args) (first := s) (o := none) (s := s) (idx := []) h2
  exact ⟨a, vk_R.of h1 q1⟩
theorem k_Zst {s : State} {args : Array Value} (ht : ∀ w ∈ lw_tbl, w.before args s = true) (hg : (Jvm.Cond.and given_1 narrow_1).before args s = true) : k_Z2 (fun q : Nat => s.heap.size ≤ q) s s.heap := by
  have hf := flat_of_before _ hg
  refine ⟨⟨?_, ?_, ?_, ?_, ?_⟩, ?_⟩
  · exact vx_Zqof (ht (.laysStatic "java/lang/Throwable" "UNASSIGNED_STACK" "[Ljava/lang/StackTraceElement;") (by decide +kernel)) (ht (.initialized "java/lang/Throwable") (by decide +kernel)) (hf (.isRef (.static "java/lang/Throwable" "UNASSIGNED_STACK" "[Ljava/lang/StackTraceElement;")) (by decide +kernel)) (fun a h9 => Nat.not_le.mpr h9)
  · exact vx_Zqof (ht (.laysStatic "java/lang/Throwable" "SUPPRESSED_SENTINEL" "Ljava/util/List;") (by decide +kernel)) (ht (.initialized "java/lang/Throwable") (by decide +kernel)) (hf (.isRef (.static "java/lang/Throwable" "SUPPRESSED_SENTINEL" "Ljava/util/List;")) (by decide +kernel)) (fun a h9 => Nat.not_le.mpr h9)
  · intro q hq
    simp only [k_strs, List.mem_cons, List.not_mem_nil, or_false] at hq
    rcases hq with rfl | rfl | rfl | rfl | rfl | rfl | rfl | rfl | rfl
    · exact k_str (ht (.stringRef "StripeTrees" 216 "there is no such member") (by decide +kernel)) (hf (.exactly (.string "StripeTrees" 216) "java/lang/String") (by decide +kernel))
    · exact k_str (ht (.stringRef "StripeTrees" 223 "the member has not joined") (by decide +kernel)) (hf (.exactly (.string "StripeTrees" 223) "java/lang/String") (by decide +kernel))
    · exact k_str (ht (.stringRef "StripeTrees" 219 "there is no such stripe") (by decide +kernel)) (hf (.exactly (.string "StripeTrees" 219) "java/lang/String") (by decide +kernel))
    · exact k_str (ht (.stringRef "StripeTrees" 221 "a value is out of range") (by decide +kernel)) (hf (.exactly (.string "StripeTrees" 221) "java/lang/String") (by decide +kernel))
    · exact k_str (ht (.stringRef "StripeTrees" 42 "the member has joined already") (by decide +kernel)) (hf (.exactly (.string "StripeTrees" 42) "java/lang/String") (by decide +kernel))
    · exact k_str (ht (.stringRef "StripeTrees" 76 "the member has failed already") (by decide +kernel)) (hf (.exactly (.string "StripeTrees" 76) "java/lang/String") (by decide +kernel))
    · exact k_str (ht (.stringRef "StripeTrees" 135 "the index is negative") (by decide +kernel)) (hf (.exactly (.string "StripeTrees" 135) "java/lang/String") (by decide +kernel))
    · exact k_str (ht (.stringRef "StripeTrees" 152 "a member does not rank before itself") (by decide +kernel)) (hf (.exactly (.string "StripeTrees" 152) "java/lang/String") (by decide +kernel))
    · exact k_str (ht (.stringRef "StripeTrees" 185 "the undo stack is empty") (by decide +kernel)) (hf (.exactly (.string "StripeTrees" 185) "java/lang/String") (by decide +kernel))
  · intro E hE
    simp only [List.mem_cons, List.not_mem_nil, or_false] at hE
    rcases hE with rfl | rfl | rfl
    · exact va_Nw.of rfl (ht (.castable "java/lang/IllegalStateException" "java/lang/IllegalStateException") (by decide +kernel))
    · exact va_Nw.of rfl (ht (.castable "java/lang/IllegalArgumentException" "java/lang/IllegalArgumentException") (by decide +kernel))
    · exact va_Nw.of rfl (ht (.castable "java/lang/IndexOutOfBoundsException" "java/lang/IndexOutOfBoundsException") (by decide +kernel))
  · intro x hx
    simp only [k_decl, List.mem_cons, List.not_mem_nil, or_false] at hx
    rcases hx with rfl | rfl | rfl | rfl | rfl | rfl
    · exact va_Nw.of rfl (ht (.declares ⟨"java/lang/RuntimeException", "<init>", "()V"⟩) (by decide +kernel))
    · exact va_Nw.of rfl (ht (.declares ⟨"java/lang/RuntimeException", "<init>", "(Ljava/lang/String;)V"⟩) (by decide +kernel))
    · exact va_Nw.of rfl (ht (.declares ⟨"java/lang/Exception", "<init>", "()V"⟩) (by decide +kernel))
    · exact va_Nw.of rfl (ht (.declares ⟨"java/lang/Exception", "<init>", "(Ljava/lang/String;)V"⟩) (by decide +kernel))
    · exact va_Nw.of rfl (ht (.declares ⟨"java/lang/Throwable", "<init>", "()V"⟩) (by decide +kernel))
    · exact va_Nw.of rfl (ht (.declares ⟨"java/lang/Throwable", "<init>", "(Ljava/lang/String;)V"⟩) (by decide +kernel))
  · intro q hq
    simp only [k_ncs, List.mem_cons, List.not_mem_nil, or_false] at hq
    rcases hq with rfl | rfl | rfl
    · exact va_Nc.of (hf (.not (.castable "java/lang/IllegalArgumentException" "java/lang/IndexOutOfBoundsException")) (by decide +kernel))
    · exact va_Nc.of (hf (.not (.castable "java/lang/IllegalStateException" "java/lang/IndexOutOfBoundsException")) (by decide +kernel))
    · exact va_Nc.of (hf (.not (.castable "java/lang/IllegalStateException" "java/lang/IllegalArgumentException")) (by decide +kernel))

/-! THE LAW: one turn -/
abbrev lL (ad : Nat → Nat) (b : Nat) (most n : Int32) (g4 g5 g6 g7 g8 g9 g10 g11 g12 : Option Value) : Ls := [some (.ref b), some (.ref (ad 0)), some (.int most), some (.int n), g4, g5, g6, g7, g8, g9, g10, g11, g12]
def HK (ad : Nat → Nat) (b : Nat) (n : Nat) (k : Tr) : Prop := ∀ (F T : Nat) (M : Mm), LI F T M → T ≤ 12 * (n + 1) → ∀ g4 g5 g6 g7 g8 g9 g10 g11 g12, k (lL ad b (nI F) (nI (n + 1)) g4 g5 g6 g7 g8 g9 g10 g11 g12) [] M
section TU
variable {ad : Nat → Nat} {M : Mm} {k : Tr} {b n F T : Nat} {g4 g5 g6 g7 g8 g9 g10 g11 g12 : Option Value} {told y : Int32}
theorem e_sound {m : Int32} (h : Snd m M) : sl_sound ad [.ref (ad 0), .int m] M = some (.inl (some (.int 1), M)) := if_pos ⟨rfl, h⟩
theorem e_low {x m : Int32} (h : ¬ m = 0) : sl_low [.int x, .int m] M = some (.inl (some (.int (lowF x m)), M)) := if_neg h
theorem Snd_of (h : LI F T M) (hT : T ≤ 1000) : Snd (nI F) M := ⟨F, T, h.1, h.2.1, hT, rfl⟩
theorem Rk_of (h : LI F T M) : Rk M := h.1.1.1.1
theorem b_456 (hn : n < 28) (h : LI F T M) (hT : T ≤ 12 * (n + 1)) (hk : HK ad b n k) : T_law_456 ad k (lL ad b (nI F) (nI n) g4 g5 g6 g7 g8 g9 (oI told) g11 g12) [] M := by
  have hk1 := hk F T M h hT
  obtain ⟨r, u, M1, M2, t1, t2, t3, t4, t5, t6, t7, t8⟩ := o_tick5 (ad := ad) h
  have hr : nI n - nI n / 6 * 6 = nI (n % 6) := pk_rem (d := 6) (by omega) (by omega) (by omega)
  have c0 := e_count (ad := ad) (M := M) (w := 0) (by decide)
  have c2 := e_count (ad := ad) (M := M2) (w := 0) (by decide)
  have s1 := e_sound (ad := ad) (Snd_of t3 (by omega))
  have hk2 := hk F T M2 t6 hT
  rw [nI_succ] at hk1 hk2
  simp only [T_law_456, tt_no, f_time, c0, c2, t1, t4, s1, t7, t8, hr, tt_c, tt_lc, tt_il, tt_ll, tt_al, tt_is, tt_lsv, tt_as, tt_inc, tt_add, tt_sub, tt_mul, tt_and, tt_ladd, tt_lmul, tt_i2l, tt_lcmp, tt_dupr, tt_dup2, tt_eq0, tt_lt0, tt_le0, tt_ge0, tt_gt0, tt_eq2, tt_lt2, tt_ge2, tt_gt2, tt_le2, tt_gr, tt_gi, tt_pi, tt_gl, tt_pl, tt_ia, tt_st, tt_ir, tt_zr, tt_lr, tt_vr, tt_cv, tt_cs, tt_max, tt_min, tt_rem, tt_xor, tt_len, tt_cp, tt_thr, tt_xv, tt_xs, k_sv, k_cl, k_kz, List.getElem?_cons_zero, List.getElem?_cons_succ, List.drop_succ_cons, List.drop_zero, List.take_succ_cons, List.take_zero, List.reverse_cons, List.reverse_nil, List.nil_append, List.cons_append, List.length_cons, List.length_nil, Option.toList_some, Option.toList_none, Nat.reduceAdd, Nat.reduceLeDiff, true_and, and_true, sp_I, sp_II, sp_III, sp_JI, sp_JJ, sp_R2, sp_R5I, sp_V]
  refine ⟨by decide, fun _ => ⟨fun q => nI_pos (by omega) q, fun _ => ⟨fun q => absurd q (by decide), fun _ => ⟨fun q => nI_pos (by omega) q, fun _ => ⟨fun _ => ⟨fun _ => hk2 _ _ _ _ _ _ _ _ _, fun q => q trivial⟩, fun q => q trivial⟩⟩⟩⟩, fun _ => hk1 _ _ _ _ _ _ _ _ _⟩
theorem b_408 {m : Nat} (hn : n < 28) (hm : m < 32) (h : LI F T M) (hT : T ≤ 12 * (n + 1)) (hk : HK ad b n k) : T_law_408 ad k (lL ad b (nI F) (nI n) g4 (oI y) (oI (nI m)) g7 g8 g9 (oI told) g11 g12) [] M := by
  have s1 := e_sound (ad := ad) (Snd_of h (by omega))
  have l24 : ∀ x : Int32, sl_low [.int x, .int 24] M = some (.inl (some (.int (lowF x 24)), M)) := fun x => e_low (by decide)
  have l4 : ∀ x : Int32, sl_low [.int x, .int 4] M = some (.inl (some (.int (lowF x 4)), M)) := fun x => e_low (by decide)
  obtain ⟨j1, a1, a2⟩ := low_n (y >>> ((7 : Int32) &&& 31)) (n := 24) (by omega) (by omega)
  obtain ⟨j2, b1, b2⟩ := low_n (y >>> ((12 : Int32) &&& 31)) (n := 24) (by omega) (by omega)
  obtain ⟨j3, d1, d2⟩ := low_n (y >>> ((17 : Int32) &&& 31)) (n := 4) (by omega) (by omega)
  have a2' : lowF (y >>> ((7 : Int32) &&& 31)) 24 = nI j1 := a2
  have b2' : lowF (y >>> ((12 : Int32) &&& 31)) 24 = nI j2 := b2
  have d2' : lowF (y >>> ((17 : Int32) &&& 31)) 4 = nI j3 := d2
  have er : sl_ranks ad [.ref (ad 0), .int (nI m), .int (nI j1), .int (nI j2), .int (nI j3)] M = some (.inl (some (.int 1), M)) := if_pos ⟨rfl, Rk_of h, bM_n hm, bM_n (by omega), bM_n (by omega), bS_n d1⟩
  have g := b_456 (ad := ad) (g4 := g4) (g5 := oI y) (g6 := oI (nI m)) (g7 := g7) (g8 := g8) (g9 := g9) (told := told) (g11 := g11) (g12 := g12) hn h hT hk
  simp only [T_law_408, tt_no, tt_shr, s1, l24, l4, a2', b2', d2', er, tt_c, tt_lc, tt_il, tt_ll, tt_al, tt_is, tt_lsv, tt_as, tt_inc, tt_add, tt_sub, tt_mul, tt_and, tt_ladd, tt_lmul, tt_i2l, tt_lcmp, tt_dupr, tt_dup2, tt_eq0, tt_lt0, tt_le0, tt_ge0, tt_gt0, tt_eq2, tt_lt2, tt_ge2, tt_gt2, tt_le2, tt_gr, tt_gi, tt_pi, tt_gl, tt_pl, tt_ia, tt_st, tt_ir, tt_zr, tt_lr, tt_vr, tt_cv, tt_cs, tt_max, tt_min, tt_rem, tt_xor, tt_len, tt_cp, tt_thr, tt_xv, tt_xs, k_sv, k_cl, k_kz, List.getElem?_cons_zero, List.getElem?_cons_succ, List.drop_succ_cons, List.drop_zero, List.take_succ_cons, List.take_zero, List.reverse_cons, List.reverse_nil, List.nil_append, List.cons_append, List.length_cons, List.length_nil, Option.toList_some, Option.toList_none, Nat.reduceAdd, Nat.reduceLeDiff, true_and, and_true, sp_I, sp_II, sp_III, sp_JI, sp_JJ, sp_R2, sp_R5I, sp_V]
  exact ⟨fun q => absurd q (by decide), fun _ => ⟨fun q => absurd q (by decide), fun _ => g⟩⟩
/-- what a change tells, and what it leaves -/
def Td (d : Int64) (told : Int32) (M : Mm) : Prop := 0 ≤ told ∨ (told = -902 ∧ diC (M.1 4 0) (M.1 0) = d)
theorem b_377 {m : Nat} {d : Int64} (hn : n < 28) (hm : m < 32) (h : LI F T M) (hT : T ≤ 12 * (n + 1)) (ht : Td d told M) (hk : HK ad b n k) : T_law_377 ad k (lL ad b (nI F) (nI n) g4 (oI y) (oI (nI m)) g7 (some (.long d)) none (oI told) g11 g12) [] M := by
  have g := b_408 (ad := ad) (g4 := g4) (y := y) (g7 := g7) (g8 := some (.long d)) (g9 := none) (told := told) (g11 := g11) (g12 := g12) hn hm h hT hk
  rcases ht with q | ⟨q1, q2⟩
  · have q9 : ¬ told = -902 := fun z => by
      rw [z] at q
      exact absurd q (by decide)
    simp only [T_law_377, tt_no, tt_c, tt_lc, tt_il, tt_ll, tt_al, tt_is, tt_lsv, tt_as, tt_inc, tt_add, tt_sub, tt_mul, tt_and, tt_ladd, tt_lmul, tt_i2l, tt_lcmp, tt_dupr, tt_dup2, tt_eq0, tt_lt0, tt_le0, tt_ge0, tt_gt0, tt_eq2, tt_lt2, tt_ge2, tt_gt2, tt_le2, tt_gr, tt_gi, tt_pi, tt_gl, tt_pl, tt_ia, tt_st, tt_ir, tt_zr, tt_lr, tt_vr, tt_cv, tt_cs, tt_max, tt_min, tt_rem, tt_xor, tt_len, tt_cp, tt_thr, tt_xv, tt_xs, k_sv, k_cl, k_kz, List.getElem?_cons_zero, List.getElem?_cons_succ, List.drop_succ_cons, List.drop_zero, List.take_succ_cons, List.take_zero, List.reverse_cons, List.reverse_nil, List.nil_append, List.cons_append, List.length_cons, List.length_nil, Option.toList_some, Option.toList_none, Nat.reduceAdd, Nat.reduceLeDiff, true_and, and_true, sp_I, sp_II, sp_III, sp_JI, sp_JJ, sp_R2, sp_R5I, sp_V]
    exact ⟨fun _ => ⟨fun z => absurd z q9, fun _ => g⟩, fun z => absurd q z⟩
  · subst q1 q2
    simp only [T_law_377, tt_no, f_digest, lcmp0, tt_c, tt_lc, tt_il, tt_ll, tt_al, tt_is, tt_lsv, tt_as, tt_inc, tt_add, tt_sub, tt_mul, tt_and, tt_ladd, tt_lmul, tt_i2l, tt_lcmp, tt_dupr, tt_dup2, tt_eq0, tt_lt0, tt_le0, tt_ge0, tt_gt0, tt_eq2, tt_lt2, tt_ge2, tt_gt2, tt_le2, tt_gr, tt_gi, tt_pi, tt_gl, tt_pl, tt_ia, tt_st, tt_ir, tt_zr, tt_lr, tt_vr, tt_cv, tt_cs, tt_max, tt_min, tt_rem, tt_xor, tt_len, tt_cp, tt_thr, tt_xv, tt_xs, k_sv, k_cl, k_kz, List.getElem?_cons_zero, List.getElem?_cons_succ, List.drop_succ_cons, List.drop_zero, List.take_succ_cons, List.take_zero, List.reverse_cons, List.reverse_nil, List.nil_append, List.cons_append, List.length_cons, List.length_nil, Option.toList_some, Option.toList_none, Nat.reduceAdd, Nat.reduceLeDiff, true_and, and_true, sp_I, sp_II, sp_III, sp_JI, sp_JJ, sp_R2, sp_R5I, sp_V]
    exact ⟨fun z => absurd z (by decide), fun _ => ⟨fun _ => ⟨fun _ => ⟨fun _ => g, fun z => absurd trivial z⟩, fun z => absurd trivial z⟩, fun z => absurd trivial z⟩⟩
end TU

/-! THE LAW: what its catching methods answer, its small methods -/
section EE
variable {ad : Nat → Nat} {M : Mm} {x y s w i : Int32}
theorem e_member (hx : bM x = false) (hw : bR w 0 9 = false) : sn_member ad [.ref (ad 0), .int x, .int w] M = some (.inl (some (.int (vC (M.1 0) x w)), M)) := by
  simp [sn_member, f_member, hx, hw, wN]
theorem e_parent (hx : bM x = false) (hs : bS s = false) (hj : vC (M.1 0) x 0 = 1) : sn_parent ad [.ref (ad 0), .int x, .int s] M = some (.inl (some (.int (pC (M.1 0) x s)), M)) := by
  simp [sn_parent, f_parent, q_ms, jnC, hx, hs, hj, wN]
theorem e_depth (hx : bM x = false) (hs : bS s = false) (hj : vC (M.1 0) x 0 = 1) : sn_depth ad [.ref (ad 0), .int x, .int s] M = some (.inl (some (.int (dC (M.1 0) x s)), M)) := by
  simp [sn_depth, f_depth, q_ms, jnC, hx, hs, hj, wN]
theorem e_subtree (hx : bM x = false) (hs : bS s = false) (hj : vC (M.1 0) x 0 = 1) : sn_subtree ad [.ref (ad 0), .int x, .int s] M = some (.inl (some (.int (stC (M.1 0) x s)), M)) := by
  simp [sn_subtree, f_subtree, q_ms, jnC, hx, hs, hj, wN]
theorem e_child (hx : bM x = false) (hs : bS s = false) (hj : vC (M.1 0) x 0 = 1) (hi : 0 ≤ i) : sn_child ad [.ref (ad 0), .int x, .int s, .int i] M = some (.inl (some (.int (caC (M.1 0) x s i)), M)) := by
  simp [sn_child, f_child, jnC, hx, hs, hj, hi, wN]
theorem e_child100 (hs : bS s = false) (hi : 0 ≤ i) : sn_child ad [.ref (ad 0), .int 100, .int s, .int i] M = some (.inl (some (.int (caC (M.1 0) 100 s i)), M)) := by
  simp [sn_child, f_child, hs, hi, wN]
theorem e_hasRoom (hx : bM x = false) (hs : bS s = false) (hj : vC (M.1 0) x 0 = 1) : sn_hasRoom ad [.ref (ad 0), .int x, .int s] M = some (.inl (some (.int (bI (rmC (M.1 0) x s))), M)) := by
  simp [sn_hasRoom, f_hasRoom, jnC, hx, hs, hj, wN]
theorem e_hasRoom100 (hs : bS s = false) : sn_hasRoom ad [.ref (ad 0), .int 100, .int s] M = some (.inl (some (.int (bI (rmC (M.1 0) 100 s))), M)) := by
  simp [sn_hasRoom, f_hasRoom, hs, wN]
theorem e_ranks (hx : bM x = false) (hy : bM y = false) (hs : bS s = false) (hxy : ¬ x = y) (hj : vC (M.1 0) x 0 = 1) (hk : vC (M.1 0) y 0 = 1) : sn_ranksBefore ad [.ref (ad 0), .int x, .int y, .int s] M = some (.inl (some (.int (bI (beC (M.1 0) x y s))), M)) := by
  simp [sn_ranksBefore, f_ranksBefore, jnC, hx, hy, hs, hxy, hj, hk, wN]
theorem e_harm (hx : bM x = false) (hj : vC (M.1 0) x 0 = 1) : sn_harm ad [.ref (ad 0), .int x] M = some (.inl (some (.int (haC (M.1 0) x)), M)) := by
  simp [sn_harm, f_harm, jnC, hx, hj, wN]
theorem e_pieces (hx : bM x = false) (hj : vC (M.1 0) x 0 = 1) : sn_pieces ad [.ref (ad 0), .int x] M = some (.inl (some (.int (pcC (M.1 0) x)), M)) := by
  simp [sn_pieces, f_pieces, jnC, hx, hj, wN]
theorem e_stripe (hs : bS s = false) (hw : bR w 0 5 = false) : sn_stripe ad [.ref (ad 0), .int s, .int w] M = some (.inl (some (.int (siC (M.1 0) s w)), M)) := by
  simp [sn_stripe, f_stripe, hs, hw, wN]
theorem e_count (hw : bR w 0 7 = false) : sn_count ad [.ref (ad 0), .int w] M = some (.inl (some (.int (figC (M.1 0) w)), M)) := by
  simp [sn_count, f_count, hw, wN]
theorem e_time : sp_V f_time [] M = some (.inl (some (.int (figC (M.1 0) 8)), M)) := rfl
end EE
def lowF (x n : Int32) : Int32 := (x &&& 2147483647) - (x &&& 2147483647) / n * n
def sl_low : Sp := fun As M => match As with
  | [.int x, .int n] => if n = 0 then none else some (.inl (some (.int (lowF x n)), M))
  | _ => none
theorem p_low (ad : Nat → Nat) (x n : Int32) (M : Mm) (h : ¬ n = 0) : T_L_low_0 ad (.inl (some (.int (lowF x n)), M)) [some (.int x), some (.int n)] [] M := by
  simp only [T_L_low_0, tt_c, tt_lc, tt_il, tt_ll, tt_al, tt_is, tt_lsv, tt_as, tt_inc, tt_add, tt_sub, tt_mul, tt_and, tt_ladd, tt_lmul, tt_i2l, tt_lcmp, tt_dupr, tt_dup2, tt_eq0, tt_lt0, tt_le0, tt_ge0, tt_gt0, tt_eq2, tt_lt2, tt_ge2, tt_gt2, tt_le2, tt_gr, tt_gi, tt_pi, tt_gl, tt_pl, tt_ia, tt_st, tt_ir, tt_zr, tt_lr, tt_vr, tt_cv, tt_cs, tt_max, tt_min, tt_rem, tt_xor, tt_len, tt_cp, tt_thr, tt_xv, tt_xs, k_sv, k_cl, k_kz, List.getElem?_cons_zero, List.getElem?_cons_succ, List.drop_succ_cons, List.drop_zero, List.take_succ_cons, List.take_zero, List.reverse_cons, List.reverse_nil, List.nil_append, List.cons_append, List.length_cons, List.length_nil, Option.toList_some, Option.toList_none, Nat.reduceAdd, Nat.reduceLeDiff, true_and, and_true, sp_I, sp_II, sp_III, sp_JI, sp_JJ, sp_R2, sp_R5I, sp_V]
  exact ⟨h, rfl⟩
theorem cc_L_low {l : Launch} {ad : Nat → Nat} {D : va_G} {cI cL : ClassId} (hI : k_I ad) : k_Con l ad D cI cL yL_low cL_low 2 (some .int) 0 0 (fun As => As) sl_low :=
  k_con (tree := fun r => T_L_low_0 ad r) hI (plainFor_of_name (by decide +kernel)) (fun X res hl hD C E => S_L_low_0 C E) (fun As M r hF => by
    unfold sl_low at hF
    split at hF
    · split at hF
      · cases hF
      · next hn =>
        cases hF
        exact ⟨Nat.le_of_ble_eq_true rfl, _, k_inL rfl, p_low ad _ _ M hn⟩
    · cases hF)
theorem low_n (x : Int32) {n : Nat} (h0 : 0 < n) (h : n < 2 ^ 31) : ∃ j, j < n ∧ lowF x (nI n) = nI j := by
  unfold lowF
  rw [pk_and x (m := 2147483647) 31 (by decide), pk_rem (Nat.mod_lt _ (by decide)) h0 h]
  exact ⟨_, Nat.mod_lt _ h0, rfl⟩
def cellF (L : Nat) (xs : Nat → Int32) (i : Int32) : Int32 := if nI L ≤ i then 1487001571 * (i + 1193) + 1013 else xs i.toNatClampNeg
def sl_cell (b L : Nat) (xs : Nat → Int32) : Sp := fun As M => match As with
  | [.ref a, .int i] => if a = b ∧ ¬ i < 0 then some (.inl (some (.int (cellF L xs i)), M)) else none
  | _ => none
theorem p_cell (b L : Nat) (xs : Nat → Int32) (i : Int32) (M : Mm) (hL : L < 2 ^ 31) (h : ¬ i < 0) : T_L_cell b L xs (.inl (some (.int (cellF L xs i)), M)) [some (.ref b), some (.int i)] [] M := by
  simp only [T_L_cell, tt_sl, tt_sn, tt_c, tt_lc, tt_il, tt_ll, tt_al, tt_is, tt_lsv, tt_as, tt_inc, tt_add, tt_sub, tt_mul, tt_and, tt_ladd, tt_lmul, tt_i2l, tt_lcmp, tt_dupr, tt_dup2, tt_eq0, tt_lt0, tt_le0, tt_ge0, tt_gt0, tt_eq2, tt_lt2, tt_ge2, tt_gt2, tt_le2, tt_gr, tt_gi, tt_pi, tt_gl, tt_pl, tt_ia, tt_st, tt_ir, tt_zr, tt_lr, tt_vr, tt_cv, tt_cs, tt_max, tt_min, tt_rem, tt_xor, tt_len, tt_cp, tt_thr, tt_xv, tt_xs, k_sv, k_cl, k_kz, List.getElem?_cons_zero, List.getElem?_cons_succ, List.drop_succ_cons, List.drop_zero, List.take_succ_cons, List.take_zero, List.reverse_cons, List.reverse_nil, List.nil_append, List.cons_append, List.length_cons, List.length_nil, Option.toList_some, Option.toList_none, Nat.reduceAdd, Nat.reduceLeDiff, true_and, and_true, sp_I, sp_II, sp_III, sp_JI, sp_JJ, sp_R2, sp_R5I, sp_V]
  unfold cellF
  refine ⟨fun c1 => by rw [if_pos c1], fun c1 => ⟨?_, by rw [if_neg c1]⟩⟩
  obtain ⟨j, hj, rfl⟩ := nI_of h
  rw [nI_leI hL hj] at c1
  exact vp_in_nI (by omega) hL
theorem cc_L_cell {l : Launch} {ad : Nat → Nat} {D : va_G} {cI cL : ClassId} {b L : Nat} {xs : Nat → Int32} (hI : k_I ad) (hL : L < 2 ^ 31) : k_ConP (k_Xz b L xs) 0 l ad D cI cL yL_cell cL_cell 2 (some .int) 0 0 (sl_cell b L xs) :=
  k_conP (tree := fun r => T_L_cell b L xs r) hI (by decide +kernel) (fun X res hl hD C R0 Z E => by
    obtain ⟨p, l, e, R, s, m, args, below, meth, c, Q, D, cI, cL, A0, H0, ck, cn⟩ := X
    obtain ⟨⟨z1, z2, z3⟩, rfl⟩ := Z
    have SC : k_SC (p, l, e, R, s, m, args, below, meth, c, Q, D, cI, cL, A0, s.heap, ck, cn) b L xs := ⟨z1, z2, z3⟩
    exact S_L_cell C SC E) (fun As M r hF => by
    unfold sl_cell at hF
    split at hF
    · split at hF
      · next hn =>
        cases hF
        obtain ⟨rfl, hn⟩ := hn
        exact ⟨Nat.le_of_ble_eq_true rfl, _, k_inL rfl, p_cell _ L xs _ M hL hn⟩
      · cases hF
    · cases hF)
theorem k_TLn_of {n : Nat} {X : Cx} (R0 : k_room n X) (Z : match X with | (_, _, _, _, s, _, _, _, _, _, _, _, _, _, A0, H0, _, _) => k_Z2 A0 s s.heap ∧ H0 = s.heap) : k_TLn n X := by
  obtain ⟨p, l, e, R, s, m, args, below, meth, c, Q, D, cI, cL, A0, H0, ck, cn⟩ := X
  exact ⟨Z.1, Z.2, R0.1, R0.2⟩
/-- who ranks before whom is an order -/
def Rk (M : Mm) : Prop := ∀ x, bM x = false → vC (M.1 0) x 0 = 0 ∨ vC (M.1 0) x 0 = 1
noncomputable def sl_ranks (ad : Nat → Nat) : Sp := fun As M => match As with
  | [.ref a0, .int a, .int b, .int d, .int s] => @ite _ (a0 = ad 0 ∧ Rk M ∧ bM a = false ∧ bM b = false ∧ bM d = false ∧ bS s = false) (Classical.propDecidable _) (some (.inl (some (.int 1), M))) none
  | _ => none
theorem xw {es : List (String × Int32)} {o : Option Rs} {E : String} {v : Int32} {M : Mm} (h : o = some (.inr (E, M))) (hv : wE es E = some v) : wX es o = some (.inl (some (.int v), M)) := by
  rw [h]
  show Option.map _ (wE es E) = _
  rw [hv]
  rfl
abbrev es3 : List (String × Int32) := [(k_IOE, (-903)), (k_IAE, (-901)), (k_ISE, (-902))]
abbrev es2 : List (String × Int32) := [(k_IOE, (-903)), (k_ISE, (-902))]
abbrev es2A : List (String × Int32) := [(k_IOE, (-903)), (k_IAE, (-901))]
theorem w3_I : wE es3 k_IOE = some (-903) := if_pos rfl
theorem w3_A : wE es3 k_IAE = some (-901) := by rw [wE, if_neg (by decide), wE, if_pos rfl]
theorem w3_S : wE es3 k_ISE = some (-902) := by rw [wE, if_neg (by decide), wE, if_neg (by decide), wE, if_pos rfl]
theorem w2_I : wE es2 k_IOE = some (-903) := if_pos rfl
theorem w2_S : wE es2 k_ISE = some (-902) := by rw [wE, if_neg (by decide), wE, if_pos rfl]
theorem w2_A : wE es2A k_IAE = some (-901) := by rw [wE, if_neg (by decide), wE, if_pos rfl]
theorem w1_A : wE [(k_IAE, (-901))] k_IAE = some (-901) := if_pos rfl
theorem w1_S : wE [(k_ISE, (-902))] k_ISE = some (-902) := if_pos rfl
theorem x_ranks {ad : Nat → Nat} {M : Mm} {a s : Int32} (ha : bM a = false) (hs : bS s = false) : sw_ranksBefore ad [.ref (ad 0), .int a, .int a, .int s] M = some (.inl (some (.int (-901)), M)) := by
  exact (show _ = wX es3 (f_ranksBefore a a s M) from if_pos rfl).trans (xw (by simp [f_ranksBefore, ha, hs]) w3_A)
theorem p_ranks (ad : Nat → Nat) (a b d s : Int32) (M : Mm) (hr : Rk M) (ha : bM a = false) (hb : bM b = false) (hd : bM d = false) (hs : bS s = false) : T_L_ranks ad (.inl (some (.int 1), M)) [some (.ref (ad 0)), some (.int a), some (.int b), some (.int d), some (.int s), none, none] [] M := by
  have hx := x_ranks (ad := ad) (M := M) ha hs
  have ma := e_member (ad := ad) (M := M) (w := 0) ha (by decide)
  have mb := e_member (ad := ad) (M := M) (w := 0) hb (by decide)
  have md := e_member (ad := ad) (M := M) (w := 0) hd (by decide)
  simp only [T_L_ranks, tt_c, tt_lc, tt_il, tt_ll, tt_al, tt_is, tt_lsv, tt_as, tt_inc, tt_add, tt_sub, tt_mul, tt_and, tt_ladd, tt_lmul, tt_i2l, tt_lcmp, tt_dupr, tt_dup2, tt_eq0, tt_lt0, tt_le0, tt_ge0, tt_gt0, tt_eq2, tt_lt2, tt_ge2, tt_gt2, tt_le2, tt_gr, tt_gi, tt_pi, tt_gl, tt_pl, tt_ia, tt_st, tt_ir, tt_zr, tt_lr, tt_vr, tt_cv, tt_cs, tt_max, tt_min, tt_rem, tt_xor, tt_len, tt_cp, tt_thr, tt_xv, tt_xs, k_sv, k_cl, k_kz, List.getElem?_cons_zero, List.getElem?_cons_succ, List.drop_succ_cons, List.drop_zero, List.take_succ_cons, List.take_zero, List.reverse_cons, List.reverse_nil, List.nil_append, List.cons_append, List.length_cons, List.length_nil, Option.toList_some, Option.toList_none, Nat.reduceAdd, Nat.reduceLeDiff, true_and, and_true, sp_I, sp_II, sp_III, sp_JI, sp_JJ, sp_R2, sp_R5I, sp_V, tt_no, hx, ma, mb, md]
  refine ⟨fun _ => by simp, fun c1 => ⟨fun _ => by simp, fun c2 => ⟨fun _ => by simp, fun c3 => ⟨fun c4 => ?_, fun _ => by simp⟩⟩⟩⟩
  have h1 : vC (M.1 0) a 0 = 1 ∧ vC (M.1 0) b 0 = 1 ∧ vC (M.1 0) d 0 = 1 := by
    rcases hr a ha with q1 | q1 <;> rcases hr b hb with q2 | q2 <;> rcases hr d hd with q3 | q3 <;> rw [q1, q2, q3] at c4 <;> first | exact ⟨q1, q2, q3⟩ | exact absurd c4 (by decide)
  obtain ⟨ja, jb, jd⟩ := h1
  have rab := e_ranks (ad := ad) ha hb hs c1 ja jb
  have rbd := e_ranks (ad := ad) hb hd hs c2 jb jd
  have rba := e_ranks (ad := ad) hb ha hs (Ne.symm c1) jb ja
  have rad := e_ranks (ad := ad) ha hd hs c3 ja jd
  have o1 := be_one (c := M.1 0) (s := s) c1
  simp only [rab, rbd, rba, rad, tt_c, tt_lc, tt_il, tt_ll, tt_al, tt_is, tt_lsv, tt_as, tt_inc, tt_add, tt_sub, tt_mul, tt_and, tt_ladd, tt_lmul, tt_i2l, tt_lcmp, tt_dupr, tt_dup2, tt_eq0, tt_lt0, tt_le0, tt_ge0, tt_gt0, tt_eq2, tt_lt2, tt_ge2, tt_gt2, tt_le2, tt_gr, tt_gi, tt_pi, tt_gl, tt_pl, tt_ia, tt_st, tt_ir, tt_zr, tt_lr, tt_vr, tt_cv, tt_cs, tt_max, tt_min, tt_rem, tt_xor, tt_len, tt_cp, tt_thr, tt_xv, tt_xs, k_sv, k_cl, k_kz, List.getElem?_cons_zero, List.getElem?_cons_succ, List.drop_succ_cons, List.drop_zero, List.take_succ_cons, List.take_zero, List.reverse_cons, List.reverse_nil, List.nil_append, List.cons_append, List.length_cons, List.length_nil, Option.toList_some, Option.toList_none, Nat.reduceAdd, Nat.reduceLeDiff, true_and, and_true, sp_I, sp_II, sp_III, sp_JI, sp_JJ, sp_R2, sp_R5I, sp_V, tt_no]
  refine ⟨fun _ => ⟨fun e1 => ⟨fun _ => by simp, fun q => q ?_⟩, fun _ => by simp⟩, fun q => q o1⟩
  have e2 : beC (M.1 0) a b s = beC (M.1 0) b d s := by
    revert e1
    cases beC (M.1 0) a b s <;> cases beC (M.1 0) b d s <;> simp [bI]
  congr 1
  cases h2 : beC (M.1 0) a b s
  · rw [h2] at e2
    have g1 : beC (M.1 0) b a s = true := by
      have := be_one (c := M.1 0) (s := s) c1
      rw [h2] at this
      cases g : beC (M.1 0) b a s
      · rw [g] at this
        exact absurd this (by decide)
      · rfl
    have g2 : beC (M.1 0) d b s = true := by
      have := be_one (c := M.1 0) (s := s) c2
      rw [← e2] at this
      cases g : beC (M.1 0) d b s
      · rw [g] at this
        exact absurd this (by decide)
      · rfl
    have g3 := be_tr g2 g1
    have := be_one (c := M.1 0) (s := s) c3
    rw [g3] at this
    cases g : beC (M.1 0) a d s
    · rfl
    · rw [g] at this
      exact absurd this (by decide)
  · rw [h2] at e2
    exact be_tr h2 e2.symm
theorem cc_L_ranks {l : Launch} {ad : Nat → Nat} {D : va_G} {cI cL : ClassId} (hI : k_I ad) (hf : l.stackTraces = false) : k_ConP k_Z2 1 l ad D cI cL yL_ranks cL_ranks 7 (some .boolean) 9 158 (sl_ranks ad) :=
  k_conP (tree := fun r => T_L_ranks ad r) hI (by decide +kernel) (fun X res hl hD C R0 Z E => by
    obtain ⟨p, l, e, R, s, m, args, below, meth, c, Q, D, cI, cL, A0, H0, ck, cn⟩ := X
    obtain rfl := hl
    obtain ⟨rfl, rfl, rfl⟩ := hD
    exact S_L_ranks C (k_TLn_of R0 Z) (by rw [k_bs_eq]; exact E) (wr_ranksBefore hI hf) (wn_member hI hf) (wn_ranksBefore hI hf)) (fun As M r hF => by
    unfold sl_ranks at hF
    split at hF
    · split at hF
      · next hn =>
        cases hF
        obtain ⟨rfl, h1, h2, h3, h4, h5⟩ := hn
        exact ⟨Nat.le_of_ble_eq_true rfl, _, k_inL rfl, p_ranks ad _ _ _ _ M h1 h2 h3 h4 h5⟩
      · cases hF
    · cases hF)
/-- what is refused -/
def Rf (M : Mm) : Prop := ¬ vC (M.1 0) 30 0 = 1 ∧ ¬ vC (M.1 0) 31 0 = 1
noncomputable def sl_refuses (ad : Nat → Nat) : Sp := fun As M => match As with
  | [.ref a0] => @ite _ (a0 = ad 0 ∧ Rf M) (Classical.propDecidable _) (some (.inl (some (.int 1), M))) none
  | _ => none
theorem lcmp0 (a : Int64) : lg_cmp a a = 0 := by simp [lg_cmp]
theorem p_refuses (ad : Nat → Nat) (M : Mm) (h : Rf M) : T_L_refuses ad (.inl (some (.int 1), M)) [some (.ref (ad 0)), none, none, none] [] M := by
  obtain ⟨h30, h31⟩ := h
  have b32 : bM 32 = true := by decide
  have b31 : bM 31 = false := by decide
  have b30 : bM 30 = false := by decide
  have b0 : bM 0 = false := by decide
  have bm : bM (-1) = true := by decide
  have s0 : bS 0 = false := by decide
  have sm : bS (-1) = true := by decide
  have a1 : sw_join ad [.ref (ad 0), .int 32, .int 0, .int 0] M = some (.inl (some (.int (-903)), M)) := (show _ = wX es3 (f_join 32 0 0 M) from if_pos rfl).trans (xw (by simp [f_join, b32]) w3_I)
  have a2 : sw_join ad [.ref (ad 0), .int 31, .int 9, .int 0] M = some (.inl (some (.int (-901)), M)) := (show _ = wX es3 (f_join 31 9 0 M) from if_pos rfl).trans (xw (by simp [f_join, b31, show bR 9 0 8 = true by decide]) w3_A)
  have a3 : sw_leave ad [.ref (ad 0), .int 32] M = some (.inl (some (.int (-903)), M)) := (show _ = wX es2 (f_leave 32 M) from if_pos rfl).trans (xw (by simp [f_leave, b32]) w2_I)
  have a4 : sw_fail ad [.ref (ad 0), .int (-1)] M = some (.inl (some (.int (-903)), M)) := (show _ = wX es2 (f_fail (-1) M) from if_pos rfl).trans (xw (by simp [f_fail, bm]) w2_I)
  have a5 : sw_setBound ad [.ref (ad 0), .int 0, .int (-1)] M = some (.inl (some (.int (-901)), M)) := (show _ = wX es3 (f_setBound 0 (-1) M) from if_pos rfl).trans (xw (by simp [f_setBound, b0, show bR (-1) 0 8 = true by decide]) w3_A)
  have a6 : sw_setSource ad [.ref (ad 0), .int 9] M = some (.inl (some (.int (-901)), M)) := (show _ = wX [(k_IAE, (-901))] (f_setSource 9 M) from if_pos rfl).trans (xw (by simp [f_setSource, show bR 9 1 8 = true by decide]) w1_A)
  have a7 : sw_setDelay ad [.ref (ad 0), .int 0] M = some (.inl (some (.int (-901)), M)) := (show _ = wX [(k_IAE, (-901))] (f_setDelay 0 M) from if_pos rfl).trans (xw (by simp [f_setDelay, show bR 0 1 20 = true by decide]) w1_A)
  have a8 : sw_rejoin ad [.ref (ad 0), .int 0, .int (-1)] M = some (.inl (some (.int (-903)), M)) := (show _ = wX es2 (f_rejoin 0 (-1) M) from if_pos rfl).trans (xw (by simp [f_rejoin, b0, sm]) w2_I)
  have a9 : sw_tick ad [.ref (ad 0), .int 201] M = some (.inl (some (.int (-901)), M)) := (show _ = wX [(k_IAE, (-901))] (f_tick 201 M) from if_pos rfl).trans (xw (by simp [f_tick, show bR 201 1 200 = true by decide]) w1_A)
  have c1 : sw_leave ad [.ref (ad 0), .int 31] M = some (.inl (some (.int (-902)), M)) := (show _ = wX es2 (f_leave 31 M) from if_pos rfl).trans (xw (by simp [f_leave, b31, jnC, h31]) w2_S)
  have c2 : sw_fail ad [.ref (ad 0), .int 31] M = some (.inl (some (.int (-902)), M)) := (show _ = wX es2 (f_fail 31 M) from if_pos rfl).trans (xw (by simp [f_fail, b31, jnC, h31]) w2_S)
  have c3 : sw_setBound ad [.ref (ad 0), .int 31, .int 0] M = some (.inl (some (.int (-902)), M)) := (show _ = wX es3 (f_setBound 31 0 M) from if_pos rfl).trans (xw (by simp [f_setBound, b31, jnC, h31, show bR 0 0 8 = false by decide]) w3_S)
  have c4 : sw_rejoin ad [.ref (ad 0), .int 31, .int 0] M = some (.inl (some (.int (-902)), M)) := (show _ = wX es2 (f_rejoin 31 0 M) from if_pos rfl).trans (xw (by simp [f_rejoin, b31, s0, jnC, h31]) w2_S)
  have c5 : sw_parent ad [.ref (ad 0), .int 31, .int 0] M = some (.inl (some (.int (-902)), M)) := (show _ = wX es2 (f_parent 31 0 M) from if_pos rfl).trans (xw (by simp [f_parent, q_ms, b31, s0, jnC, h31]) w2_S)
  have c6 : sw_child ad [.ref (ad 0), .int 31, .int 0, .int 0] M = some (.inl (some (.int (-902)), M)) := (show _ = wX es3 (f_child 31 0 0 M) from if_pos rfl).trans (xw (by simp [f_child, b31, s0, jnC, h31]) w3_S)
  have c7 : sw_hasRoom ad [.ref (ad 0), .int 31, .int 0] M = some (.inl (some (.int (-902)), M)) := (show _ = wX es2 (f_hasRoom 31 0 M) from if_pos rfl).trans (xw (by simp [f_hasRoom, b31, s0, jnC, h31]) w2_S)
  have c8 : sw_harm ad [.ref (ad 0), .int 31] M = some (.inl (some (.int (-902)), M)) := (show _ = wX es2 (f_harm 31 M) from if_pos rfl).trans (xw (by simp [f_harm, b31, jnC, h31]) w2_S)
  have c9 : sw_pieces ad [.ref (ad 0), .int 31] M = some (.inl (some (.int (-902)), M)) := (show _ = wX es2 (f_pieces 31 M) from if_pos rfl).trans (xw (by simp [f_pieces, b31, jnC, h31]) w2_S)
  have d1 : sw_ranksBefore ad [.ref (ad 0), .int 30, .int 31, .int 0] M = some (.inl (some (.int (-902)), M)) := (show _ = wX es3 (f_ranksBefore 30 31 0 M) from if_pos rfl).trans (xw (by simp [f_ranksBefore, b30, b31, s0, jnC, h30]) w3_S)
  have d2 : sw_stripe ad [.ref (ad 0), .int 0, .int (-1)] M = some (.inl (some (.int (-901)), M)) := (show _ = wX es2A (f_stripe 0 (-1) M) from if_pos rfl).trans (xw (by simp [f_stripe, s0, show bR (-1) 0 5 = true by decide]) w2_A)
  simp only [T_L_refuses, tt_c, tt_lc, tt_il, tt_ll, tt_al, tt_is, tt_lsv, tt_as, tt_inc, tt_add, tt_sub, tt_mul, tt_and, tt_ladd, tt_lmul, tt_i2l, tt_lcmp, tt_dupr, tt_dup2, tt_eq0, tt_lt0, tt_le0, tt_ge0, tt_gt0, tt_eq2, tt_lt2, tt_ge2, tt_gt2, tt_le2, tt_gr, tt_gi, tt_pi, tt_gl, tt_pl, tt_ia, tt_st, tt_ir, tt_zr, tt_lr, tt_vr, tt_cv, tt_cs, tt_max, tt_min, tt_rem, tt_xor, tt_len, tt_cp, tt_thr, tt_xv, tt_xs, k_sv, k_cl, k_kz, List.getElem?_cons_zero, List.getElem?_cons_succ, List.drop_succ_cons, List.drop_zero, List.take_succ_cons, List.take_zero, List.reverse_cons, List.reverse_nil, List.nil_append, List.cons_append, List.length_cons, List.length_nil, Option.toList_some, Option.toList_none, Nat.reduceAdd, Nat.reduceLeDiff, true_and, and_true, sp_I, sp_II, sp_III, sp_JI, sp_JJ, sp_R2, sp_R5I, sp_V, tt_no, f_digest, a1, a2, a3, a4, a5, a6, a7, a8, a9, c1, c2, c3, c4, c5, c6, c7, c8, c9, d1, d2, lcmp0, not_true_eq_false, false_implies, true_implies, and_true]
  simp
theorem cc_L_refuses {l : Launch} {ad : Nat → Nat} {D : va_G} {cI cL : ClassId} (hI : k_I ad) (hf : l.stackTraces = false) : k_ConP k_Z2 20 l ad D cI cL yL_refuses cL_refuses 4 (some .boolean) 10 210 (sl_refuses ad) :=
  k_conP (tree := fun r => T_L_refuses ad r) hI (by decide +kernel) (fun X res hl hD C R0 Z E => by
    obtain ⟨p, l, e, R, s, m, args, below, meth, c, Q, D, cI, cL, A0, H0, ck, cn⟩ := X
    obtain rfl := hl
    obtain ⟨rfl, rfl, rfl⟩ := hD
    exact S_L_refuses C (k_TLn_of R0 Z) (by rw [k_bs_eq]; exact E) (cc_X3_digest hI hf) (wr_join hI hf) (wr_leave hI hf) (wr_fail hI hf) (wr_setBound hI hf) (wr_setSource hI hf) (wr_setDelay hI hf) (wr_rejoin hI hf) (wr_tick hI hf) (wr_parent hI hf) (wr_child hI hf) (wr_hasRoom hI hf) (wr_harm hI hf) (wr_pieces hI hf) (wr_ranksBefore hI hf) (wr_stripe hI hf)) (fun As M r hF => by
    unfold sl_refuses at hF
    split at hF
    · split at hF
      · next hn =>
        cases hF
        obtain ⟨rfl, h1⟩ := hn
        exact ⟨Nat.le_of_ble_eq_true rfl, _, k_inL rfl, p_refuses ad M h1⟩
      · cases hF
    · cases hF)

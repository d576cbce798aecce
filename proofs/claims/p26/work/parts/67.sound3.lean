/-! THE LAW: sound, its outer loops, its contract -/
section SP
variable {ad : Nat → Nat} {M : Mm} {F T : Nat} {g4 g5 g6 g7 g8 g9 g10 g11 g12 g13 : Option Value}
theorem si_0 (c : Ce) (s : Int32) : siC c s 0 = cnC c s := by unfold siC; exact if_pos rfl
theorem si_1 (c : Ce) (s : Int32) : siC c s 1 = oC c s := by unfold siC; rw [if_neg (by decide)]; exact if_pos rfl
theorem si_2 (c : Ce) (s : Int32) : siC c s 2 = gdC c s := by unfold siC; rw [if_neg (by decide), if_neg (by decide)]; exact if_pos rfl
theorem si_3 (c : Ce) (s : Int32) : siC c s 3 = chC c 100 s := by unfold siC; rw [if_neg (by decide), if_neg (by decide), if_neg (by decide)]; exact if_pos rfl
theorem si_4 (c : Ce) (s : Int32) : siC c s 4 = wrC c s := by unfold siC; rw [if_neg (by decide), if_neg (by decide), if_neg (by decide), if_neg (by decide)]; exact if_pos rfl
theorem s_485 (J : Jv F T (M.1 0)) (hF : F ≤ 8) : T_L_sound_485 ad (.inl (some (.int 1), M)) (lS ad (nI F) (nI (jnN (M.1 0) 32)) 0 g4 g5 g6 g7 g8 g9 g10 g11 g12 g13) [] M := by
  have iv := J.1.1
  simp only [T_L_sound_485]
  refine lp_of (σ := Nat) (fun j => j ≤ 4) (fun j => lS ad (nI F) (nI (jnN (M.1 0) 32)) (nI j) g4 g5 g6 g7 g8 g9 g10 g11 g12 g13) (fun _ => M) (fun j => 4 - j) ?_ 0 (by omega)
  intro k1 j hj hk1
  by_cases h4 : j = 4
  · subst h4
    have c0 := e_count (ad := ad) (M := M) (w := 0) (by decide)
    have c1 := e_count (ad := ad) (M := M) (w := 1) (by decide)
    have h0 : figC (M.1 0) 0 = nI (jnN (M.1 0) 32) := iv.2.2.2.2.2.2.1
    have h8 := J.2.1
    have h1 : figC (M.1 0) 1 = nI T := J.1.2.2.1.1
    simp only [tt_no, c0, c1, f_time, h0, h1, h8, tt_c, tt_lc, tt_il, tt_ll, tt_al, tt_is, tt_lsv, tt_as, tt_inc, tt_add, tt_sub, tt_mul, tt_and, tt_ladd, tt_lmul, tt_i2l, tt_lcmp, tt_dupr, tt_dup2, tt_eq0, tt_lt0, tt_le0, tt_ge0, tt_gt0, tt_eq2, tt_lt2, tt_ge2, tt_gt2, tt_le2, tt_gr, tt_gi, tt_pi, tt_gl, tt_pl, tt_ia, tt_st, tt_ir, tt_zr, tt_lr, tt_vr, tt_cv, tt_cs, tt_max, tt_min, tt_rem, tt_xor, tt_len, tt_cp, tt_thr, tt_xv, tt_xs, k_sv, k_cl, k_kz, List.getElem?_cons_zero, List.getElem?_cons_succ, List.drop_succ_cons, List.drop_zero, List.take_succ_cons, List.take_zero, List.reverse_cons, List.reverse_nil, List.nil_append, List.cons_append, List.length_cons, List.length_nil, Option.toList_some, Option.toList_none, Nat.reduceAdd, Nat.reduceLeDiff, true_and, and_true, sp_I, sp_II, sp_III, sp_JI, sp_JJ, sp_R2, sp_R5I, sp_V]
    refine ⟨fun _ => ⟨fun _ => ⟨fun _ => by simp, fun q => q trivial⟩, fun q => q trivial⟩, fun q => absurd (by decide) q⟩
  · have hS := bS_n (show j < 4 by omega)
    have g4' : ¬ (4 : Int32) ≤ nI j := fun q => by
      rw [show (4 : Int32) = nI 4 from rfl, nI_leI (by omega) (by omega)] at q
      omega
    have e0 := e_stripe (ad := ad) (M := M) (w := 0) hS (by decide)
    have e1 := e_stripe (ad := ad) (M := M) (w := 1) hS (by decide)
    have e2 := e_stripe (ad := ad) (M := M) (w := 2) hS (by decide)
    have e3 := e_stripe (ad := ad) (M := M) (w := 3) hS (by decide)
    have er := e_hasRoom100 (ad := ad) (M := M) hS
    have hcl := cnt_le (M.1 0) 100 (nI j)
    have h9 := J.2.2
    have hcF : cnt (M.1 0) 100 (nI j) ≤ F := by
      obtain ⟨F', f1, f2, f3, f4⟩ := J.1.2.1.2
      have := f4 _ hS
      rw [h9, nI_eq (by omega) (by omega)] at f3
      omega
    have hco := con_or iv (nI j)
    have hj32 : jnN (M.1 0) 32 ≤ 32 := cN_le _ _
    obtain ⟨q, q1, q2, q3⟩ := gd_le iv hS
    rw [si_0, cnC_n] at e0
    rw [si_1, oC_n] at e1
    rw [si_2, q3] at e2
    rw [si_3, chC_cnt] at e3
    rw [rm_100 h9 hF] at er
    have ec := e_child100 (ad := ad) (M := M) hS (nI_pos' (n := cnt (M.1 0) 100 (nI j)) (by omega))
    rw [ca_end] at ec
    have hA := cN_le (fun i => !decide (dC (M.1 0) (nI i) (nI j) = -1)) 32
    have hB := cN_le (fun i => orC (M.1 0) (nI i) (nI j)) 32
    generalize cN (fun i => !decide (dC (M.1 0) (nI i) (nI j) = -1)) 32 = A at *
    generalize cN (fun i => orC (M.1 0) (nI i) (nI j)) 32 = B at *
    generalize cnt (M.1 0) 100 (nI j) = C at *
    have hn := hk1 (j + 1) (by omega) (by omega)
    rw [nI_succ] at hn
    have h554 : ∀ v, v = bI (decide (C < F)) → T_L_sound_554 ad (.inl (some (.int 1), M)) k1 (lS ad (nI F) (nI (jnN (M.1 0) 32)) (nI j) g4 g5 g6 g7 g8 g9 g10 g11 g12 g13) [.int v, .int (bI (decide (C < F)))] M := fun v hv => by
      subst hv
      simp only [T_L_sound_554, tt_no, e3, ec, tt_c, tt_lc, tt_il, tt_ll, tt_al, tt_is, tt_lsv, tt_as, tt_inc, tt_add, tt_sub, tt_mul, tt_and, tt_ladd, tt_lmul, tt_i2l, tt_lcmp, tt_dupr, tt_dup2, tt_eq0, tt_lt0, tt_le0, tt_ge0, tt_gt0, tt_eq2, tt_lt2, tt_ge2, tt_gt2, tt_le2, tt_gr, tt_gi, tt_pi, tt_gl, tt_pl, tt_ia, tt_st, tt_ir, tt_zr, tt_lr, tt_vr, tt_cv, tt_cs, tt_max, tt_min, tt_rem, tt_xor, tt_len, tt_cp, tt_thr, tt_xv, tt_xs, k_sv, k_cl, k_kz, List.getElem?_cons_zero, List.getElem?_cons_succ, List.drop_succ_cons, List.drop_zero, List.take_succ_cons, List.take_zero, List.reverse_cons, List.reverse_nil, List.nil_append, List.cons_append, List.length_cons, List.length_nil, Option.toList_some, Option.toList_none, Nat.reduceAdd, Nat.reduceLeDiff, true_and, and_true, sp_I, sp_II, sp_III, sp_JI, sp_JJ, sp_R2, sp_R5I, sp_V]
      exact ⟨fun _ => ⟨fun _ => hn, fun z => z trivial⟩, fun z => z trivial⟩
    simp only [tt_no, e0, e1, e2, e3, er, tt_c, tt_lc, tt_il, tt_ll, tt_al, tt_is, tt_lsv, tt_as, tt_inc, tt_add, tt_sub, tt_mul, tt_and, tt_ladd, tt_lmul, tt_i2l, tt_lcmp, tt_dupr, tt_dup2, tt_eq0, tt_lt0, tt_le0, tt_ge0, tt_gt0, tt_eq2, tt_lt2, tt_ge2, tt_gt2, tt_le2, tt_gr, tt_gi, tt_pi, tt_gl, tt_pl, tt_ia, tt_st, tt_ir, tt_zr, tt_lr, tt_vr, tt_cv, tt_cs, tt_max, tt_min, tt_rem, tt_xor, tt_len, tt_cp, tt_thr, tt_xv, tt_xs, k_sv, k_cl, k_kz, List.getElem?_cons_zero, List.getElem?_cons_succ, List.drop_succ_cons, List.drop_zero, List.take_succ_cons, List.take_zero, List.reverse_cons, List.reverse_nil, List.nil_append, List.cons_append, List.length_cons, List.length_nil, Option.toList_some, Option.toList_none, Nat.reduceAdd, Nat.reduceLeDiff, true_and, and_true, sp_I, sp_II, sp_III, sp_JI, sp_JJ, sp_R2, sp_R5I, sp_V]
    refine ⟨fun z => absurd z g4', fun _ => ⟨fun z => ?_, fun _ => ⟨fun z => ?_, fun _ => ⟨fun z => ?_, fun _ => ⟨fun z => ?_, fun z => ?_⟩⟩⟩⟩⟩
    · rw [nI_ltI (by omega) (by omega)] at z
      omega
    · rw [nI_add, nI_ltI (by omega) (by omega)] at z
      omega
    · rw [nI_ltI (by omega) (by omega)] at z
      omega
    · rw [nI_leI (by omega) (by omega)] at z
      exact h554 0 (by simp [bI, Nat.not_lt.mpr z])
    · rw [nI_leI (by omega) (by omega)] at z
      exact h554 1 (by simp [bI, Nat.not_le.mp z])
def gv (g4 g5 g6 g7 g8 g9 g10 g11 g12 g13 : Option Value) : Nat → Option Value
  | 4 => g4
  | 5 => g5
  | 6 => g6
  | 7 => g7
  | 8 => g8
  | 9 => g9
  | 10 => g10
  | 11 => g11
  | 12 => g12
  | _ => g13
theorem s_4 (J : Jv F T (M.1 0)) (hF : F ≤ 8) (hT : T ≤ 1000) : T_L_sound_4 ad (.inl (some (.int 1), M)) (lS ad (nI F) 0 0 g4 g5 g6 g7 g8 g9 g10 g11 g12 g13) [] M := by
  have iv := J.1.1
  simp only [T_L_sound_4]
  refine lp_of (σ := Nat × (Nat → Option Value)) (fun q => q.1 ≤ 32) (fun q => lS ad (nI F) (nI (jnN (M.1 0) q.1)) (nI q.1) (q.2 4) (q.2 5) (q.2 6) (q.2 7) (q.2 8) (q.2 9) (q.2 10) (q.2 11) (q.2 12) (q.2 13)) (fun _ => M) (fun q => 32 - q.1) ?_ (0, gv g4 g5 g6 g7 g8 g9 g10 g11 g12 g13) (by omega)
  rintro k1 ⟨i, f⟩ hi hk1
  dsimp only at hi hk1 ⊢
  by_cases h32 : i = 32
  · subst h32
    simp only [tt_c, tt_lc, tt_il, tt_ll, tt_al, tt_is, tt_lsv, tt_as, tt_inc, tt_add, tt_sub, tt_mul, tt_and, tt_ladd, tt_lmul, tt_i2l, tt_lcmp, tt_dupr, tt_dup2, tt_eq0, tt_lt0, tt_le0, tt_ge0, tt_gt0, tt_eq2, tt_lt2, tt_ge2, tt_gt2, tt_le2, tt_gr, tt_gi, tt_pi, tt_gl, tt_pl, tt_ia, tt_st, tt_ir, tt_zr, tt_lr, tt_vr, tt_cv, tt_cs, tt_max, tt_min, tt_rem, tt_xor, tt_len, tt_cp, tt_thr, tt_xv, tt_xs, k_sv, k_cl, k_kz, List.getElem?_cons_zero, List.getElem?_cons_succ, List.drop_succ_cons, List.drop_zero, List.take_succ_cons, List.take_zero, List.reverse_cons, List.reverse_nil, List.nil_append, List.cons_append, List.length_cons, List.length_nil, Option.toList_some, Option.toList_none, Nat.reduceAdd, Nat.reduceLeDiff, true_and, and_true, sp_I, sp_II, sp_III, sp_JI, sp_JJ, sp_R2, sp_R5I, sp_V]
    exact ⟨fun _ => s_485 J hF, fun q => absurd (by decide) q⟩
  · have hM := bM_n (show i < 32 by omega)
    have g32 : ¬ (32 : Int32) ≤ nI i := fun q => by
      rw [show (32 : Int32) = nI 32 from rfl, nI_leI (by omega) (by omega)] at q
      omega
    have m0 := e_member (ad := ad) (M := M) (w := 0) hM (by decide)
    have m1 := e_member (ad := ad) (M := M) (w := 1) hM (by decide)
    have hnx : ∀ n, jnN (M.1 0) (i + 1) = n → ∀ g4 g5 g6 g7 g8 g9 g10 g11 g12 g13, k1 (lS ad (nI F) (nI n) (nI i + 1) g4 g5 g6 g7 g8 g9 g10 g11 g12 g13) [] M := fun n hn g4 g5 g6 g7 g8 g9 g10 g11 g12 g13 => by
      have := hk1 (i + 1, gv g4 g5 g6 g7 g8 g9 g10 g11 g12 g13) (by omega) (by dsimp only; omega)
      dsimp only at this
      rw [nI_succ, hn] at this
      exact this
    simp only [m0, m1, tt_c, tt_lc, tt_il, tt_ll, tt_al, tt_is, tt_lsv, tt_as, tt_inc, tt_add, tt_sub, tt_mul, tt_and, tt_ladd, tt_lmul, tt_i2l, tt_lcmp, tt_dupr, tt_dup2, tt_eq0, tt_lt0, tt_le0, tt_ge0, tt_gt0, tt_eq2, tt_lt2, tt_ge2, tt_gt2, tt_le2, tt_gr, tt_gi, tt_pi, tt_gl, tt_pl, tt_ia, tt_st, tt_ir, tt_zr, tt_lr, tt_vr, tt_cv, tt_cs, tt_max, tt_min, tt_rem, tt_xor, tt_len, tt_cp, tt_thr, tt_xv, tt_xs, k_sv, k_cl, k_kz, List.getElem?_cons_zero, List.getElem?_cons_succ, List.drop_succ_cons, List.drop_zero, List.take_succ_cons, List.take_zero, List.reverse_cons, List.reverse_nil, List.nil_append, List.cons_append, List.length_cons, List.length_nil, Option.toList_some, Option.toList_none, Nat.reduceAdd, Nat.reduceLeDiff, true_and, and_true, sp_I, sp_II, sp_III, sp_JI, sp_JJ, sp_R2, sp_R5I, sp_V]
    refine ⟨fun q => absurd q g32, fun _ => ⟨fun q => ?_, fun q => ?_⟩⟩
    · refine s_477 (hnx _ ?_)
      unfold jnN
      rw [cN, if_neg]
      · rfl
      · simp [q]
    · have h1 := (iv.1 _ hM).resolve_left q
      rw [nI_1]
      refine s_48 J hT hM h1 rfl (hnx _ ?_)
      unfold jnN
      rw [cN, if_pos]
      simp [h1]
theorem p_sound (J : Jv F T (M.1 0)) (hF : F ≤ 8) (hT : T ≤ 1000) : T_L_sound_0 ad (.inl (some (.int 1), M)) [some (.ref (ad 0)), some (.int (nI F)), g4, g5, g6, g7, g8, g9, g10, g11, g12, g13, none, none] [] M := by
  simp only [T_L_sound_0, tt_c, tt_lc, tt_il, tt_ll, tt_al, tt_is, tt_lsv, tt_as, tt_inc, tt_add, tt_sub, tt_mul, tt_and, tt_ladd, tt_lmul, tt_i2l, tt_lcmp, tt_dupr, tt_dup2, tt_eq0, tt_lt0, tt_le0, tt_ge0, tt_gt0, tt_eq2, tt_lt2, tt_ge2, tt_gt2, tt_le2, tt_gr, tt_gi, tt_pi, tt_gl, tt_pl, tt_ia, tt_st, tt_ir, tt_zr, tt_lr, tt_vr, tt_cv, tt_cs, tt_max, tt_min, tt_rem, tt_xor, tt_len, tt_cp, tt_thr, tt_xv, tt_xs, k_sv, k_cl, k_kz, List.getElem?_cons_zero, List.getElem?_cons_succ, List.drop_succ_cons, List.drop_zero, List.take_succ_cons, List.take_zero, List.reverse_cons, List.reverse_nil, List.nil_append, List.cons_append, List.length_cons, List.length_nil, Option.toList_some, Option.toList_none, Nat.reduceAdd, Nat.reduceLeDiff, true_and, and_true, sp_I, sp_II, sp_III, sp_JI, sp_JJ, sp_R2, sp_R5I, sp_V]
  exact s_4 J hF hT
end SP
def Snd (m : Int32) (M : Mm) : Prop := ∃ F T : Nat, Jv F T (M.1 0) ∧ F ≤ 8 ∧ T ≤ 1000 ∧ m = nI F
noncomputable def sl_sound (ad : Nat → Nat) : Sp := fun As M => match As with
  | [.ref a0, .int m] => @ite _ (a0 = ad 0 ∧ Snd m M) (Classical.propDecidable _) (some (.inl (some (.int 1), M))) none
  | _ => none
theorem cc_L_sound {l : Launch} {ad : Nat → Nat} {D : va_G} {cI cL : ClassId} (hI : k_I ad) (hf : l.stackTraces = false) : k_Con l ad D cI cL yL_sound cL_sound 14 (some .boolean) 10 179 (fun As => As) (sl_sound ad) :=
  k_con (tree := fun r => T_L_sound_0 ad r) hI (plainFor_of_name (by decide +kernel)) (fun X res hl hD C E => by
    obtain ⟨p, l, e, R, s, m, args, below, meth, c, Q, D, cI, cL, A0, H0, ck, cn⟩ := X
    obtain rfl := hl
    obtain ⟨rfl, rfl, rfl⟩ := hD
    exact S_L_sound_0 C E (wn_member hI hf) (wn_child hI hf) (wn_parent hI hf) (wn_subtree hI hf) (wn_depth hI hf) (wn_hasRoom hI hf) (wn_pieces hI hf) (wn_harm hI hf) (cc_X3_time hI hf) (wn_count hI hf) (wn_stripe hI hf)) (fun As M r hF => by
    unfold sl_sound at hF
    split at hF
    · split at hF
      · next hn =>
        cases hF
        obtain ⟨rfl, F, T, h1, h2, h3, rfl⟩ := hn
        exact ⟨Nat.le_of_ble_eq_true rfl, [some (.ref (ad 0)), some (.int (nI F)), none, none, none, none, none, none, none, none, none, none, none, none], k_inL rfl, p_sound h1 h2 h3⟩
      · cases hF
    · cases hF)

/-! THE LAW: sound holds of what always holds -/
abbrev oI (v : Int32) : Option Value := some (.int v)
abbrev lS (ad : Nat → Nat) (most jn x : Int32) (g4 g5 g6 g7 g8 g9 g10 g11 g12 g13 : Option Value) : Ls := [some (.ref (ad 0)), some (.int most), some (.int jn), some (.int x), g4, g5, g6, g7, g8, g9, g10, g11, g12, g13]
section SO
variable {ad : Nat → Nat} {M : Mm} {res : Rs} {lo : Int32 → Nat}
theorem wk_s (c : Ce) (s : Int32) : ∀ (i : Nat) (x : Int32), wk c s (i + 1) x = pC c (wk c s i x) s := by
  intro i
  induction i with
  | zero => exact fun x => rfl
  | succ i ih => exact fun x => ih (pC c x s)
theorem wk_gd {c : Ce} (iv : Iv lo c) {s x : Int32} (h : Gd c x) : ∀ i, Gd c (wk c s i x) := by
  intro i
  induction i with
  | zero => exact h
  | succ i ih =>
    rw [wk_s]
    exact Gd_p iv _ s
variable {K : Tr} {most jn x bd ch st be co s its at0 far : Int32} {g10 g11 g12 g13 : Option Value}
theorem s_273 (hk : K (lS ad most jn x (oI bd) (oI ch) (oI st) (oI be) (oI co) (oI (s + 1)) g10 g11 g12 g13) [] M) : T_L_sound_273 ad res K (lS ad most jn x (oI bd) (oI ch) (oI st) (oI be) (oI co) (oI s) g10 g11 g12 g13) [] M := by
  simp only [T_L_sound_273, tt_c, tt_lc, tt_il, tt_ll, tt_al, tt_is, tt_lsv, tt_as, tt_inc, tt_add, tt_sub, tt_mul, tt_and, tt_ladd, tt_lmul, tt_i2l, tt_lcmp, tt_dupr, tt_dup2, tt_eq0, tt_lt0, tt_le0, tt_ge0, tt_gt0, tt_eq2, tt_lt2, tt_ge2, tt_gt2, tt_le2, tt_gr, tt_gi, tt_pi, tt_gl, tt_pl, tt_ia, tt_st, tt_ir, tt_zr, tt_lr, tt_vr, tt_cv, tt_cs, tt_max, tt_min, tt_rem, tt_xor, tt_len, tt_cp, tt_thr, tt_xv, tt_xs, k_sv, k_cl, k_kz, List.getElem?_cons_zero, List.getElem?_cons_succ, List.drop_succ_cons, List.drop_zero, List.take_succ_cons, List.take_zero, List.reverse_cons, List.reverse_nil, List.nil_append, List.cons_append, List.length_cons, List.length_nil, Option.toList_some, Option.toList_none, Nat.reduceAdd, Nat.reduceLeDiff, true_and, and_true, sp_I, sp_II, sp_III, sp_JI, sp_JJ, sp_R2, sp_R5I, sp_V]
  exact hk
theorem s_228 {v : Int32} (hx : bM x = false) (hs : bS s = false) (hj : vC (M.1 0) x 0 = 1) (hfv : far = v) (hst : ¬ stC (M.1 0) x s ≤ its) (hrm : bI (rmC (M.1 0) x s) = 1 → ¬ far < 0 ∧ ch < bd) (hk : ∀ g10 g11 g12 g13, K (lS ad most jn x (oI bd) (oI ch) (oI st) (oI be) (oI co) (oI (s + 1)) g10 g11 g12 g13) [] M) : T_L_sound_228 ad res K (lS ad most jn x (oI bd) (oI ch) (oI st) (oI be) (oI co) (oI s) (oI its) g11 g12 (oI far)) [.int v, .int far] M := by
  have e1 := e_subtree (ad := ad) hx hs hj
  have e2 := e_hasRoom (ad := ad) hx hs hj
  simp only [T_L_sound_228, tt_no, e1, e2, tt_c, tt_lc, tt_il, tt_ll, tt_al, tt_is, tt_lsv, tt_as, tt_inc, tt_add, tt_sub, tt_mul, tt_and, tt_ladd, tt_lmul, tt_i2l, tt_lcmp, tt_dupr, tt_dup2, tt_eq0, tt_lt0, tt_le0, tt_ge0, tt_gt0, tt_eq2, tt_lt2, tt_ge2, tt_gt2, tt_le2, tt_gr, tt_gi, tt_pi, tt_gl, tt_pl, tt_ia, tt_st, tt_ir, tt_zr, tt_lr, tt_vr, tt_cv, tt_cs, tt_max, tt_min, tt_rem, tt_xor, tt_len, tt_cp, tt_thr, tt_xv, tt_xs, k_sv, k_cl, k_kz, List.getElem?_cons_zero, List.getElem?_cons_succ, List.drop_succ_cons, List.drop_zero, List.take_succ_cons, List.take_zero, List.reverse_cons, List.reverse_nil, List.nil_append, List.cons_append, List.length_cons, List.length_nil, Option.toList_some, Option.toList_none, Nat.reduceAdd, Nat.reduceLeDiff, true_and, and_true, sp_I, sp_II, sp_III, sp_JI, sp_JJ, sp_R2, sp_R5I, sp_V]
  refine ⟨fun _ => ⟨fun q => hst q, fun _ => ⟨fun q => ?_, fun _ => s_273 (hk _ _ _ _)⟩⟩, fun q => q hfv⟩
  obtain ⟨q1, q2⟩ := hrm q
  exact ⟨fun q => q1 q, fun _ => ⟨fun _ => s_273 (hk _ _ _ _), fun q => absurd q2 q⟩⟩
theorem s_203 {u w : Int32} {k : Int32} (hx : bM x = false) (hs : bS s = false) (hj : vC (M.1 0) x 0 = 1) (hk40 : ¬ k = 40) (hfar : far = if at0 = 100 then k else -1) (hst : ¬ stC (M.1 0) x s ≤ its) (hrm : bI (rmC (M.1 0) x s) = 1 → ¬ far < 0 ∧ ch < bd) (hw : w + u = co) (hk : ∀ g10 g11 g12 g13, K (lS ad most jn x (oI bd) (oI ch) (oI st) (oI be) (oI co) (oI (s + 1)) g10 g11 g12 g13) [] M) : T_L_sound_203 ad res K (lS ad most jn x (oI bd) (oI ch) (oI st) (oI be) (oI w) (oI s) (oI its) (oI at0) (oI k) (oI far)) [.int u, .int w] M := by
  subst hw
  simp only [T_L_sound_203, tt_no, tt_c, tt_lc, tt_il, tt_ll, tt_al, tt_is, tt_lsv, tt_as, tt_inc, tt_add, tt_sub, tt_mul, tt_and, tt_ladd, tt_lmul, tt_i2l, tt_lcmp, tt_dupr, tt_dup2, tt_eq0, tt_lt0, tt_le0, tt_ge0, tt_gt0, tt_eq2, tt_lt2, tt_ge2, tt_gt2, tt_le2, tt_gr, tt_gi, tt_pi, tt_gl, tt_pl, tt_ia, tt_st, tt_ir, tt_zr, tt_lr, tt_vr, tt_cv, tt_cs, tt_max, tt_min, tt_rem, tt_xor, tt_len, tt_cp, tt_thr, tt_xv, tt_xs, k_sv, k_cl, k_kz, List.getElem?_cons_zero, List.getElem?_cons_succ, List.drop_succ_cons, List.drop_zero, List.take_succ_cons, List.take_zero, List.reverse_cons, List.reverse_nil, List.nil_append, List.cons_append, List.length_cons, List.length_nil, Option.toList_some, Option.toList_none, Nat.reduceAdd, Nat.reduceLeDiff, true_and, and_true, sp_I, sp_II, sp_III, sp_JI, sp_JJ, sp_R2, sp_R5I, sp_V]
  refine ⟨fun q => hk40 q, fun _ => ⟨fun q => ?_, fun q => ?_⟩⟩
  · rw [if_pos q] at hfar
    exact s_228 hx hs hj hfar hst hrm hk
  · rw [if_neg q] at hfar
    exact s_228 hx hs hj hfar hst hrm hk
theorem s_182 {w k : Int32} (hx : bM x = false) (hs : bS s = false) (hj : vC (M.1 0) x 0 = 1) (hk40 : ¬ k = 40) (hfar : dC (M.1 0) x s = if at0 = 100 then k else -1) (hst : ¬ stC (M.1 0) x s ≤ its) (hrm : bI (rmC (M.1 0) x s) = 1 → ¬ dC (M.1 0) x s < 0 ∧ ch < bd) (hw : w + (if 0 < dC (M.1 0) x s then 1 else 0) = co) (hk : ∀ g10 g11 g12 g13, K (lS ad most jn x (oI bd) (oI ch) (oI st) (oI be) (oI co) (oI (s + 1)) g10 g11 g12 g13) [] M) : T_L_sound_182 ad res K (lS ad most jn x (oI bd) (oI ch) (oI st) (oI be) (oI w) (oI s) (oI its) (oI at0) (oI k) g13) [] M := by
  have e1 := e_depth (ad := ad) hx hs hj
  simp only [T_L_sound_182, tt_no, e1, tt_c, tt_lc, tt_il, tt_ll, tt_al, tt_is, tt_lsv, tt_as, tt_inc, tt_add, tt_sub, tt_mul, tt_and, tt_ladd, tt_lmul, tt_i2l, tt_lcmp, tt_dupr, tt_dup2, tt_eq0, tt_lt0, tt_le0, tt_ge0, tt_gt0, tt_eq2, tt_lt2, tt_ge2, tt_gt2, tt_le2, tt_gr, tt_gi, tt_pi, tt_gl, tt_pl, tt_ia, tt_st, tt_ir, tt_zr, tt_lr, tt_vr, tt_cv, tt_cs, tt_max, tt_min, tt_rem, tt_xor, tt_len, tt_cp, tt_thr, tt_xv, tt_xs, k_sv, k_cl, k_kz, List.getElem?_cons_zero, List.getElem?_cons_succ, List.drop_succ_cons, List.drop_zero, List.take_succ_cons, List.take_zero, List.reverse_cons, List.reverse_nil, List.nil_append, List.cons_append, List.length_cons, List.length_nil, Option.toList_some, Option.toList_none, Nat.reduceAdd, Nat.reduceLeDiff, true_and, and_true, sp_I, sp_II, sp_III, sp_JI, sp_JJ, sp_R2, sp_R5I, sp_V]
  refine ⟨fun q => ?_, fun q => ?_⟩
  · rw [if_neg (Int32.not_lt.mpr q)] at hw
    exact s_203 hx hs hj hk40 hfar hst hrm hw hk
  · rw [if_pos (Int32.not_le.mp q)] at hw
    exact s_203 hx hs hj hk40 hfar hst hrm hw hk
theorem nI40 {k : Nat} (h : k ≤ 32) : ¬ nI k = 40 := fun q => by
  rw [show (40 : Int32) = nI 40 from rfl, nI_eq (by omega) (by omega)] at q
  omega
theorem s_147 {w : Int32} {k : Nat} {e : Int32} (iv : Iv lo (M.1 0)) (hx : bM x = false) (hs : bS s = false) (hj : vC (M.1 0) x 0 = 1) (he : eD e) (hen : en (M.1 0) s e k x) (hfar : dC (M.1 0) x s = if e = 100 then nI k else -1) (hst : ¬ stC (M.1 0) x s ≤ its) (hrm : bI (rmC (M.1 0) x s) = 1 → ¬ dC (M.1 0) x s < 0 ∧ ch < bd) (hw : w + (if 0 < dC (M.1 0) x s then 1 else 0) = co) (hk : ∀ g10 g11 g12 g13, K (lS ad most jn x (oI bd) (oI ch) (oI st) (oI be) (oI co) (oI (s + 1)) g10 g11 g12 g13) [] M) : T_L_sound_147 ad res K (lS ad most jn x (oI bd) (oI ch) (oI st) (oI be) (oI w) (oI s) (oI its) (oI x) (oI 0) g13) [] M := by
  have hkl := en_le he hen
  simp only [T_L_sound_147]
  refine lp_of (σ := Nat) (fun i => i ≤ k) (fun i => lS ad most jn x (oI bd) (oI ch) (oI st) (oI be) (oI w) (oI s) (oI its) (oI (wk (M.1 0) s i x)) (oI (nI i)) g13) (fun _ => M) (fun i => k - i) ?_ 0 (by omega)
  intro k1 i hi hk1
  have h182 : i = k → ∀ at1, at1 = e → T_L_sound_182 ad res K (lS ad most jn x (oI bd) (oI ch) (oI st) (oI be) (oI w) (oI s) (oI its) (oI at1) (oI (nI i)) g13) [] M := fun hik at1 ha => by
    subst hik ha
    exact s_182 hx hs hj (nI40 hkl) hfar hst hrm hw hk
  have h1 := en_wk (i := i) hi hen
  by_cases hik : i = k
  · have h2 : wk (M.1 0) s i x = e := by
      rw [hik, Nat.sub_self] at h1
      rw [hik]
      exact h1
    have h3 := h182 hik _ h2
    simp only [tt_no, tt_c, tt_lc, tt_il, tt_ll, tt_al, tt_is, tt_lsv, tt_as, tt_inc, tt_add, tt_sub, tt_mul, tt_and, tt_ladd, tt_lmul, tt_i2l, tt_lcmp, tt_dupr, tt_dup2, tt_eq0, tt_lt0, tt_le0, tt_ge0, tt_gt0, tt_eq2, tt_lt2, tt_ge2, tt_gt2, tt_le2, tt_gr, tt_gi, tt_pi, tt_gl, tt_pl, tt_ia, tt_st, tt_ir, tt_zr, tt_lr, tt_vr, tt_cv, tt_cs, tt_max, tt_min, tt_rem, tt_xor, tt_len, tt_cp, tt_thr, tt_xv, tt_xs, k_sv, k_cl, k_kz, List.getElem?_cons_zero, List.getElem?_cons_succ, List.drop_succ_cons, List.drop_zero, List.take_succ_cons, List.take_zero, List.reverse_cons, List.reverse_nil, List.nil_append, List.cons_append, List.length_cons, List.length_nil, Option.toList_some, Option.toList_none, Nat.reduceAdd, Nat.reduceLeDiff, true_and, and_true, sp_I, sp_II, sp_III, sp_JI, sp_JJ, sp_R2, sp_R5I, sp_V]
    refine ⟨fun _ => h3, fun q1 => ⟨fun _ => h3, fun q2 => ?_⟩⟩
    exfalso
    rw [h2] at q1 q2
    rcases he with rfl | rfl
    · exact q2 (by decide)
    · exact q1 (by decide)
  · obtain ⟨d, hd⟩ : ∃ d, k - i = d + 1 := ⟨k - i - 1, by omega⟩
    rw [hd] at h1
    have hM := h1.1
    have hJ := Gd_m (wk_gd iv (Or.inr (Or.inr ⟨hx, hj⟩)) i) hM
    have hb := hM
    simp only [bM, Bool.or_eq_false_iff, decide_eq_false_iff_not, Decidable.not_not] at hb
    have e1 := e_parent (ad := ad) hM hs hJ
    simp only [tt_no, e1, tt_c, tt_lc, tt_il, tt_ll, tt_al, tt_is, tt_lsv, tt_as, tt_inc, tt_add, tt_sub, tt_mul, tt_and, tt_ladd, tt_lmul, tt_i2l, tt_lcmp, tt_dupr, tt_dup2, tt_eq0, tt_lt0, tt_le0, tt_ge0, tt_gt0, tt_eq2, tt_lt2, tt_ge2, tt_gt2, tt_le2, tt_gr, tt_gi, tt_pi, tt_gl, tt_pl, tt_ia, tt_st, tt_ir, tt_zr, tt_lr, tt_vr, tt_cv, tt_cs, tt_max, tt_min, tt_rem, tt_xor, tt_len, tt_cp, tt_thr, tt_xv, tt_xs, k_sv, k_cl, k_kz, List.getElem?_cons_zero, List.getElem?_cons_succ, List.drop_succ_cons, List.drop_zero, List.take_succ_cons, List.take_zero, List.reverse_cons, List.reverse_nil, List.nil_append, List.cons_append, List.length_cons, List.length_nil, Option.toList_some, Option.toList_none, Nat.reduceAdd, Nat.reduceLeDiff, true_and, and_true, sp_I, sp_II, sp_III, sp_JI, sp_JJ, sp_R2, sp_R5I, sp_V]
    refine ⟨fun q => absurd q hb.1, fun _ => ⟨fun q => absurd hb.2 (Int32.not_lt.mpr q), fun _ => ⟨fun q => ?_, fun _ => ?_⟩⟩⟩
    · rw [show (40 : Int32) = nI 40 from rfl, nI_leI (by omega) (by omega)] at q
      omega
    · have := hk1 (i + 1) (by omega) (by omega)
      rw [wk_s, nI_succ] at this
      exact this
theorem s_138 {v w be0 : Int32} (iv : Iv lo (M.1 0)) (hx : bM x = false) (hs : bS s = false) (hj : vC (M.1 0) x 0 = 1) (hst : ¬ stC (M.1 0) x s ≤ its) (hrm : bI (rmC (M.1 0) x s) = 1 → ¬ dC (M.1 0) x s < 0 ∧ ch < bd) (hv : be0 + v = be) (hw : w + (if 0 < dC (M.1 0) x s then 1 else 0) = co) (hk : ∀ g10 g11 g12 g13, K (lS ad most jn x (oI bd) (oI ch) (oI st) (oI be) (oI co) (oI (s + 1)) g10 g11 g12 g13) [] M) : T_L_sound_138 ad res K (lS ad most jn x (oI bd) (oI ch) (oI st) (oI be0) (oI w) (oI s) (oI its) g11 g12 g13) [.int v, .int be0] M := by
  subst hv
  obtain ⟨k, e, he, h1⟩ := iv.2.2.2.2.2.1 s hs x hx
  have h2 := dC_en he h1
  simp only [T_L_sound_138, tt_c, tt_lc, tt_il, tt_ll, tt_al, tt_is, tt_lsv, tt_as, tt_inc, tt_add, tt_sub, tt_mul, tt_and, tt_ladd, tt_lmul, tt_i2l, tt_lcmp, tt_dupr, tt_dup2, tt_eq0, tt_lt0, tt_le0, tt_ge0, tt_gt0, tt_eq2, tt_lt2, tt_ge2, tt_gt2, tt_le2, tt_gr, tt_gi, tt_pi, tt_gl, tt_pl, tt_ia, tt_st, tt_ir, tt_zr, tt_lr, tt_vr, tt_cv, tt_cs, tt_max, tt_min, tt_rem, tt_xor, tt_len, tt_cp, tt_thr, tt_xv, tt_xs, k_sv, k_cl, k_kz, List.getElem?_cons_zero, List.getElem?_cons_succ, List.drop_succ_cons, List.drop_zero, List.take_succ_cons, List.take_zero, List.reverse_cons, List.reverse_nil, List.nil_append, List.cons_append, List.length_cons, List.length_nil, Option.toList_some, Option.toList_none, Nat.reduceAdd, Nat.reduceLeDiff, true_and, and_true, sp_I, sp_II, sp_III, sp_JI, sp_JJ, sp_R2, sp_R5I, sp_V]
  exact s_147 iv hx hs hj he h1 h2 hst hrm hw hk
theorem s_115 {u w st0 be0 : Int32} (iv : Iv lo (M.1 0)) (hx : bM x = false) (hs : bS s = false) (hj : vC (M.1 0) x 0 = 1) (hst : ¬ stC (M.1 0) x s ≤ its) (hrm : bI (rmC (M.1 0) x s) = 1 → ¬ dC (M.1 0) x s < 0 ∧ ch < bd) (hu : st0 + u = st) (hv : be0 + (if its ≤ 0 then 0 else stC (M.1 0) x s - 1) = be) (hw : w + (if 0 < dC (M.1 0) x s then 1 else 0) = co) (hk : ∀ g10 g11 g12 g13, K (lS ad most jn x (oI bd) (oI ch) (oI st) (oI be) (oI co) (oI (s + 1)) g10 g11 g12 g13) [] M) : T_L_sound_115 ad res K (lS ad most jn x (oI bd) (oI ch) (oI st0) (oI be0) (oI w) (oI s) (oI its) g11 g12 g13) [.int u, .int st0] M := by
  subst hu
  have e1 := e_subtree (ad := ad) hx hs hj
  simp only [T_L_sound_115, e1, tt_c, tt_lc, tt_il, tt_ll, tt_al, tt_is, tt_lsv, tt_as, tt_inc, tt_add, tt_sub, tt_mul, tt_and, tt_ladd, tt_lmul, tt_i2l, tt_lcmp, tt_dupr, tt_dup2, tt_eq0, tt_lt0, tt_le0, tt_ge0, tt_gt0, tt_eq2, tt_lt2, tt_ge2, tt_gt2, tt_le2, tt_gr, tt_gi, tt_pi, tt_gl, tt_pl, tt_ia, tt_st, tt_ir, tt_zr, tt_lr, tt_vr, tt_cv, tt_cs, tt_max, tt_min, tt_rem, tt_xor, tt_len, tt_cp, tt_thr, tt_xv, tt_xs, k_sv, k_cl, k_kz, List.getElem?_cons_zero, List.getElem?_cons_succ, List.drop_succ_cons, List.drop_zero, List.take_succ_cons, List.take_zero, List.reverse_cons, List.reverse_nil, List.nil_append, List.cons_append, List.length_cons, List.length_nil, Option.toList_some, Option.toList_none, Nat.reduceAdd, Nat.reduceLeDiff, true_and, and_true, sp_I, sp_II, sp_III, sp_JI, sp_JJ, sp_R2, sp_R5I, sp_V]
  refine ⟨fun q => ?_, fun q => ?_⟩
  · rw [if_pos q] at hv
    exact s_138 iv hx hs hj hst hrm hv hw hk
  · rw [if_neg q] at hv
    exact s_138 iv hx hs hj hst hrm hv hw hk
theorem s_57 {w ch0 st0 be0 : Int32} (iv : Iv lo (M.1 0)) (hx : bM x = false) (hs : bS s = false) (hj : vC (M.1 0) x 0 = 1) (hst : ¬ stC (M.1 0) x s ≤ nI (cnt (M.1 0) x s)) (hrm : bI (rmC (M.1 0) x s) = 1 → ¬ dC (M.1 0) x s < 0 ∧ ch < bd) (hc : ch0 + nI (cnt (M.1 0) x s) = ch) (hu : st0 + (if nI (cnt (M.1 0) x s) ≤ 0 then 0 else 1) = st) (hv : be0 + (if nI (cnt (M.1 0) x s) ≤ 0 then 0 else stC (M.1 0) x s - 1) = be) (hw : w + (if 0 < dC (M.1 0) x s then 1 else 0) = co) (hk : ∀ g10 g11 g12 g13, K (lS ad most jn x (oI bd) (oI ch) (oI st) (oI be) (oI co) (oI (s + 1)) g10 g11 g12 g13) [] M) : T_L_sound_57 ad res K (lS ad most jn x (oI bd) (oI ch0) (oI st0) (oI be0) (oI w) (oI s) (oI 0) g11 g12 g13) [] M := by
  have hcl := cnt_le (M.1 0) x s
  simp only [T_L_sound_57]
  refine lp_of (σ := Nat) (fun i => i ≤ cnt (M.1 0) x s) (fun i => lS ad most jn x (oI bd) (oI ch0) (oI st0) (oI be0) (oI w) (oI s) (oI (nI i)) g11 g12 g13) (fun _ => M) (fun i => cnt (M.1 0) x s - i) ?_ 0 (by omega)
  intro k1 i hi hk1
  have hi0 : (0 : Int32) ≤ nI i := nI_pos' (by omega)
  have e1 := e_child (ad := ad) hx hs hj hi0
  by_cases hik : i = cnt (M.1 0) x s
  · subst hik
    have e2 := ca_end (M.1 0) x s
    rw [e2] at e1
    subst hc
    simp only [tt_no, e1, tt_c, tt_lc, tt_il, tt_ll, tt_al, tt_is, tt_lsv, tt_as, tt_inc, tt_add, tt_sub, tt_mul, tt_and, tt_ladd, tt_lmul, tt_i2l, tt_lcmp, tt_dupr, tt_dup2, tt_eq0, tt_lt0, tt_le0, tt_ge0, tt_gt0, tt_eq2, tt_lt2, tt_ge2, tt_gt2, tt_le2, tt_gr, tt_gi, tt_pi, tt_gl, tt_pl, tt_ia, tt_st, tt_ir, tt_zr, tt_lr, tt_vr, tt_cv, tt_cs, tt_max, tt_min, tt_rem, tt_xor, tt_len, tt_cp, tt_thr, tt_xv, tt_xs, k_sv, k_cl, k_kz, List.getElem?_cons_zero, List.getElem?_cons_succ, List.drop_succ_cons, List.drop_zero, List.take_succ_cons, List.take_zero, List.reverse_cons, List.reverse_nil, List.nil_append, List.cons_append, List.length_cons, List.length_nil, Option.toList_some, Option.toList_none, Nat.reduceAdd, Nat.reduceLeDiff, true_and, and_true, sp_I, sp_II, sp_III, sp_JI, sp_JJ, sp_R2, sp_R5I, sp_V]
    refine ⟨fun _ => ⟨fun q => ?_, fun q => ?_⟩, fun q => absurd (by decide) q⟩
    · rw [if_pos q] at hu
      exact s_115 iv hx hs hj hst hrm hu hv hw hk
    · rw [if_neg q] at hu
      exact s_115 iv hx hs hj hst hrm hu hv hw hk
  · obtain ⟨z, z1, z2, z3⟩ := ca_lt (c := M.1 0) (a := x) (s := s) (i := i) (by omega)
    rw [z3] at e1
    have zj := ch_j iv z1 (bMm1 hx) z2
    have e2 := e_parent (ad := ad) z1 hs zj
    rw [z2] at e2
    have zb := z1
    simp only [bM, Bool.or_eq_false_iff, decide_eq_false_iff_not, Decidable.not_not] at zb
    simp only [tt_no, e1, e2, tt_c, tt_lc, tt_il, tt_ll, tt_al, tt_is, tt_lsv, tt_as, tt_inc, tt_add, tt_sub, tt_mul, tt_and, tt_ladd, tt_lmul, tt_i2l, tt_lcmp, tt_dupr, tt_dup2, tt_eq0, tt_lt0, tt_le0, tt_ge0, tt_gt0, tt_eq2, tt_lt2, tt_ge2, tt_gt2, tt_le2, tt_gr, tt_gi, tt_pi, tt_gl, tt_pl, tt_ia, tt_st, tt_ir, tt_zr, tt_lr, tt_vr, tt_cv, tt_cs, tt_max, tt_min, tt_rem, tt_xor, tt_len, tt_cp, tt_thr, tt_xv, tt_xs, k_sv, k_cl, k_kz, List.getElem?_cons_zero, List.getElem?_cons_succ, List.drop_succ_cons, List.drop_zero, List.take_succ_cons, List.take_zero, List.reverse_cons, List.reverse_nil, List.nil_append, List.cons_append, List.length_cons, List.length_nil, Option.toList_some, Option.toList_none, Nat.reduceAdd, Nat.reduceLeDiff, true_and, and_true, sp_I, sp_II, sp_III, sp_JI, sp_JJ, sp_R2, sp_R5I, sp_V]
    refine ⟨fun q => absurd q zb.1, fun _ => ⟨fun _ => ?_, fun q => q trivial⟩⟩
    have := hk1 (i + 1) (by omega) (by omega)
    rw [nI_succ] at this
    exact this
end SO

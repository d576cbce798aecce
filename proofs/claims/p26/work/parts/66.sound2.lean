/-! THE LAW: sound, a member; all members; all stripes -/
section SN
variable {ad : Nat → Nat} {M : Mm} {res : Rs} {c : Ce} {F T : Nat}
theorem n_cnt (J : Jv F T c) (hT : T ≤ 1000) {x : Int32} (hx : bM x = false) (hj : vC c x 0 = 1) : ¬ figC c 1 < vC c x 8 + vC c x 9 ∧ ¬ 4 * figC c 1 < vC c x 7 ∧ 3 * vC c x 8 ≤ vC c x 7 := by
  obtain ⟨⟨iv, hB, ⟨s1, s2⟩, hi⟩, h8, h9⟩ := J
  obtain ⟨g, h, m, q7, q8, q9, a1, a2, a3⟩ := s2 x hx hj
  rw [q7, q8, q9, s1, nI_add, show (4 : Int32) = nI 4 from rfl, show (3 : Int32) = nI 3 from rfl, pk_mul, pk_mul]
  refine ⟨fun q => ?_, fun q => ?_, ?_⟩
  · rw [nI_ltI (by omega) (by omega)] at q
    omega
  · rw [nI_ltI (by omega) (by omega)] at q
    omega
  · rw [nI_leI (by omega) (by omega)]
    omega
theorem n_harm (J : Jv F T c) (hT : T ≤ 1000) {x : Int32} (hx : bM x = false) (hj : vC c x 0 = 1) : ¬ nI (beA c x 4) < haC c x ∧ ¬ haC c x < 0 ∧ (vC c x 3 = 1 → haC c x = 0 ∧ figC c 8 < vC c x 4) := by
  obtain ⟨⟨iv, hB, hs, hi⟩, h8, h9⟩ := J
  have h1 := ha_be (c := c) hx
  have h2 := haN_le c x
  have h3 := beA_le c x (n := 4) (by omega)
  rw [haC_n]
  refine ⟨fun q => ?_, fun q => nI_pos (by omega) q, fun q => ⟨by rw [haN_f hx q]; rfl, ?_⟩⟩
  · rw [nI_ltI (by omega) (by omega)] at q
    omega
  · rcases iv.2.2.2.1 x hx hj with p | ⟨-, k, k1, k2, k3⟩
    · rw [p.1] at q
      cases q
    · have k1' : 1 ≤ k := k1
      rw [k3, h8, nI_add, nI_ltI (by omega) (by omega)]
      omega
theorem n_pc (J : Jv F T c) {x : Int32} (hx : bM x = false) : ¬ pcC c x < 0 ∧ ¬ nI (coA c x 4) < pcC c x ∧ (vC c x 3 = 1 → pcC c x = 0) := by
  obtain ⟨⟨iv, hB, hs, hi⟩, h8, h9⟩ := J
  have h1 := pc_co iv hx
  have h2 := coA_le c x (n := 4) (by omega)
  rw [pcC_n]
  refine ⟨fun q => nI_pos (by omega) q, fun q => ?_, fun q => ?_⟩
  · rw [nI_ltI (by omega) (by omega)] at q
    omega
  · rw [cN_zero (fun i _ => gC_fl hx q)]
    rfl
theorem n_ch (J : Jv F T c) {x : Int32} (hx : bM x = false) (hj : vC c x 0 = 1) : ¬ vC c x 1 < nI (chA c x 4) ∧ ¬ 1 < nI (siA c x 4) ∧ vC c x 5 = nI (chA c x 4) ∧ (if vC c x 6 < 0 then (1 : Int32) else 0) = if nI (chA c x 4) = 0 then 1 else 0 := by
  obtain ⟨⟨iv, hB, hs, hi⟩, h8, h9⟩ := J
  obtain ⟨b, b1, b2, b3⟩ := hB.1 x hx hj
  have hk := iv.2.2.2.2.1 x hx
  have h1 := siA_4 hk
  have h2 := tot_le c x
  rw [chA_4, b2]
  refine ⟨fun q => ?_, fun q => ?_, hk.1, ?_⟩
  · rw [nI_ltI (by omega) (by omega)] at q
    omega
  · rw [show (1 : Int32) = nI 1 from rfl, nI_ltI (by omega) (by omega)] at q
    omega
  · by_cases ht : tot c x = 0
    · rw [hk.2.1 ht hj, ht]
      rfl
    · rw [if_neg (nI_ne0 (by omega) (by omega))]
      have hex : ∃ i, i < 4 ∧ ¬ cnt c x (nI i) = 0 := by
        by_cases q0 : cnt c x (nI 0) = 0
        · by_cases q1 : cnt c x (nI 1) = 0
          · by_cases q2 : cnt c x (nI 2) = 0
            · refine ⟨3, by omega, fun q3 => ht ?_⟩
              unfold tot
              rw [show (0 : Int32) = nI 0 from rfl, show (1 : Int32) = nI 1 from rfl, show (2 : Int32) = nI 2 from rfl, show (3 : Int32) = nI 3 from rfl, q0, q1, q2, q3]
            · exact ⟨2, by omega, q2⟩
          · exact ⟨1, by omega, q1⟩
        · exact ⟨0, by omega, q0⟩
      obtain ⟨i, hi, hc⟩ := hex
      rw [hk.2.2 _ (bS_n hi) hc, if_neg (nI_pos (by omega))]
variable {K : Tr} {most jn x bd ch st be co pc : Int32} {g4 g5 g6 g7 g8 g9 g10 g11 g12 g13 : Option Value}
theorem s_477 (hk : ∀ g4 g5 g6 g7 g8 g9 g10 g11 g12 g13, K (lS ad most jn (x + 1) g4 g5 g6 g7 g8 g9 g10 g11 g12 g13) [] M) : T_L_sound_477 ad res K (lS ad most jn x g4 g5 g6 g7 g8 g9 g10 g11 g12 g13) [] M := by
  simp only [T_L_sound_477, tt_c, tt_lc, tt_il, tt_ll, tt_al, tt_is, tt_lsv, tt_as, tt_inc, tt_add, tt_sub, tt_mul, tt_and, tt_ladd, tt_lmul, tt_i2l, tt_lcmp, tt_dupr, tt_dup2, tt_eq0, tt_lt0, tt_le0, tt_ge0, tt_gt0, tt_eq2, tt_lt2, tt_ge2, tt_gt2, tt_le2, tt_gr, tt_gi, tt_pi, tt_gl, tt_pl, tt_ia, tt_st, tt_ir, tt_zr, tt_lr, tt_vr, tt_cv, tt_cs, tt_max, tt_min, tt_rem, tt_xor, tt_len, tt_cp, tt_thr, tt_xv, tt_xs, k_sv, k_cl, k_kz, List.getElem?_cons_zero, List.getElem?_cons_succ, List.drop_succ_cons, List.drop_zero, List.take_succ_cons, List.take_zero, List.reverse_cons, List.reverse_nil, List.nil_append, List.cons_append, List.length_cons, List.length_nil, Option.toList_some, Option.toList_none, Nat.reduceAdd, Nat.reduceLeDiff, true_and, and_true, sp_I, sp_II, sp_III, sp_JI, sp_JJ, sp_R2, sp_R5I, sp_V]
  exact hk _ _ _ _ _ _ _ _ _ _
theorem s_416 (J : Jv F T (M.1 0)) (hT : T ≤ 1000) (hx : bM x = false) (hj : vC (M.1 0) x 0 = 1) (hk : ∀ g4 g5 g6 g7 g8 g9 g10 g11 g12 g13, K (lS ad most jn (x + 1) g4 g5 g6 g7 g8 g9 g10 g11 g12 g13) [] M) : T_L_sound_416 ad res K (lS ad most jn x g4 g5 g6 g7 g8 g9 g10 g11 g12 g13) [] M := by
  obtain ⟨h1, h2, h3⟩ := n_cnt J hT hx hj
  have m7 := e_member (ad := ad) (M := M) (w := 7) hx (by decide)
  have m8 := e_member (ad := ad) (M := M) (w := 8) hx (by decide)
  have m9 := e_member (ad := ad) (M := M) (w := 9) hx (by decide)
  have c1 := e_count (ad := ad) (M := M) (w := 1) (by decide)
  simp only [T_L_sound_416, tt_no, m7, m8, m9, c1, tt_c, tt_lc, tt_il, tt_ll, tt_al, tt_is, tt_lsv, tt_as, tt_inc, tt_add, tt_sub, tt_mul, tt_and, tt_ladd, tt_lmul, tt_i2l, tt_lcmp, tt_dupr, tt_dup2, tt_eq0, tt_lt0, tt_le0, tt_ge0, tt_gt0, tt_eq2, tt_lt2, tt_ge2, tt_gt2, tt_le2, tt_gr, tt_gi, tt_pi, tt_gl, tt_pl, tt_ia, tt_st, tt_ir, tt_zr, tt_lr, tt_vr, tt_cv, tt_cs, tt_max, tt_min, tt_rem, tt_xor, tt_len, tt_cp, tt_thr, tt_xv, tt_xs, k_sv, k_cl, k_kz, List.getElem?_cons_zero, List.getElem?_cons_succ, List.drop_succ_cons, List.drop_zero, List.take_succ_cons, List.take_zero, List.reverse_cons, List.reverse_nil, List.nil_append, List.cons_append, List.length_cons, List.length_nil, Option.toList_some, Option.toList_none, Nat.reduceAdd, Nat.reduceLeDiff, true_and, and_true, sp_I, sp_II, sp_III, sp_JI, sp_JJ, sp_R2, sp_R5I, sp_V]
  exact ⟨fun q => h1 q, fun _ => ⟨fun q => h2 q, fun _ => ⟨fun _ => s_477 hk, fun q => q h3⟩⟩⟩
theorem s_365 (J : Jv F T (M.1 0)) (hT : T ≤ 1000) (hx : bM x = false) (hj : vC (M.1 0) x 0 = 1) (hbe : be = nI (beA (M.1 0) x 4)) (hk : ∀ g4 g5 g6 g7 g8 g9 g10 g11 g12 g13, K (lS ad most jn (x + 1) g4 g5 g6 g7 g8 g9 g10 g11 g12 g13) [] M) : T_L_sound_365 ad res K (lS ad most jn x g4 g5 g6 (oI be) g8 g9 g10 g11 g12 g13) [] M := by
  subst hbe
  obtain ⟨h1, h2, h3⟩ := n_harm J hT hx hj
  have m3 := e_member (ad := ad) (M := M) (w := 3) hx (by decide)
  have m4 := e_member (ad := ad) (M := M) (w := 4) hx (by decide)
  have eh := e_harm (ad := ad) (M := M) hx hj
  simp only [T_L_sound_365, tt_no, m3, m4, eh, f_time, tt_c, tt_lc, tt_il, tt_ll, tt_al, tt_is, tt_lsv, tt_as, tt_inc, tt_add, tt_sub, tt_mul, tt_and, tt_ladd, tt_lmul, tt_i2l, tt_lcmp, tt_dupr, tt_dup2, tt_eq0, tt_lt0, tt_le0, tt_ge0, tt_gt0, tt_eq2, tt_lt2, tt_ge2, tt_gt2, tt_le2, tt_gr, tt_gi, tt_pi, tt_gl, tt_pl, tt_ia, tt_st, tt_ir, tt_zr, tt_lr, tt_vr, tt_cv, tt_cs, tt_max, tt_min, tt_rem, tt_xor, tt_len, tt_cp, tt_thr, tt_xv, tt_xs, k_sv, k_cl, k_kz, List.getElem?_cons_zero, List.getElem?_cons_succ, List.drop_succ_cons, List.drop_zero, List.take_succ_cons, List.take_zero, List.reverse_cons, List.reverse_nil, List.nil_append, List.cons_append, List.length_cons, List.length_nil, Option.toList_some, Option.toList_none, Nat.reduceAdd, Nat.reduceLeDiff, true_and, and_true, sp_I, sp_II, sp_III, sp_JI, sp_JJ, sp_R2, sp_R5I, sp_V]
  exact ⟨fun q => h1 q, fun _ => ⟨fun q => h2 q, fun _ => ⟨fun q => ⟨fun _ => ⟨fun _ => s_416 J hT hx hj hk, fun q2 => q2 (h3 q).2⟩, fun q2 => q2 (h3 q).1⟩, fun _ => s_416 J hT hx hj hk⟩⟩⟩
theorem s_335 {u v : Int32} (J : Jv F T (M.1 0)) (hT : T ≤ 1000) (hx : bM x = false) (hj : vC (M.1 0) x 0 = 1) (huv : u = v) (hbe : be = nI (beA (M.1 0) x 4)) (hco : co = nI (coA (M.1 0) x 4)) (hpc : pc = pcC (M.1 0) x) (hk : ∀ g4 g5 g6 g7 g8 g9 g10 g11 g12 g13, K (lS ad most jn (x + 1) g4 g5 g6 g7 g8 g9 g10 g11 g12 g13) [] M) : T_L_sound_335 ad res K (lS ad most jn x g4 g5 g6 (oI be) (oI co) (oI pc) g10 g11 g12 g13) [.int v, .int u] M := by
  obtain ⟨h1, h2, h3⟩ := n_pc J hx
  have m3 := e_member (ad := ad) (M := M) (w := 3) hx (by decide)
  simp only [T_L_sound_335, tt_no, m3, tt_c, tt_lc, tt_il, tt_ll, tt_al, tt_is, tt_lsv, tt_as, tt_inc, tt_add, tt_sub, tt_mul, tt_and, tt_ladd, tt_lmul, tt_i2l, tt_lcmp, tt_dupr, tt_dup2, tt_eq0, tt_lt0, tt_le0, tt_ge0, tt_gt0, tt_eq2, tt_lt2, tt_ge2, tt_gt2, tt_le2, tt_gr, tt_gi, tt_pi, tt_gl, tt_pl, tt_ia, tt_st, tt_ir, tt_zr, tt_lr, tt_vr, tt_cv, tt_cs, tt_max, tt_min, tt_rem, tt_xor, tt_len, tt_cp, tt_thr, tt_xv, tt_xs, k_sv, k_cl, k_kz, List.getElem?_cons_zero, List.getElem?_cons_succ, List.drop_succ_cons, List.drop_zero, List.take_succ_cons, List.take_zero, List.reverse_cons, List.reverse_nil, List.nil_append, List.cons_append, List.length_cons, List.length_nil, Option.toList_some, Option.toList_none, Nat.reduceAdd, Nat.reduceLeDiff, true_and, and_true, sp_I, sp_II, sp_III, sp_JI, sp_JJ, sp_R2, sp_R5I, sp_V]
  have g := s_365 (res := res) (g4 := g4) (g5 := g5) (g6 := g6) (g8 := oI co) (g9 := oI pc) (g10 := g10) (g11 := g11) (g12 := g12) (g13 := g13) J hT hx hj hbe hk
  subst hpc hco
  exact ⟨fun _ => ⟨fun q => h1 q, fun _ => ⟨fun q => h2 q, fun _ => ⟨fun q => ⟨fun _ => g, fun q2 => q2 (h3 q)⟩, fun _ => g⟩⟩⟩, fun q => q huv⟩
theorem s_325 {u : Int32} (J : Jv F T (M.1 0)) (hT : T ≤ 1000) (hx : bM x = false) (hj : vC (M.1 0) x 0 = 1) (hu : u = if ch = 0 then 1 else 0) (hbe : be = nI (beA (M.1 0) x 4)) (hco : co = nI (coA (M.1 0) x 4)) (hpc : pc = pcC (M.1 0) x) (hk : ∀ g4 g5 g6 g7 g8 g9 g10 g11 g12 g13, K (lS ad most jn (x + 1) g4 g5 g6 g7 g8 g9 g10 g11 g12 g13) [] M) : T_L_sound_325 ad res K (lS ad most jn x g4 (oI ch) g6 (oI be) (oI co) (oI pc) g10 g11 g12 g13) [.int u] M := by
  simp only [T_L_sound_325, tt_c, tt_lc, tt_il, tt_ll, tt_al, tt_is, tt_lsv, tt_as, tt_inc, tt_add, tt_sub, tt_mul, tt_and, tt_ladd, tt_lmul, tt_i2l, tt_lcmp, tt_dupr, tt_dup2, tt_eq0, tt_lt0, tt_le0, tt_ge0, tt_gt0, tt_eq2, tt_lt2, tt_ge2, tt_gt2, tt_le2, tt_gr, tt_gi, tt_pi, tt_gl, tt_pl, tt_ia, tt_st, tt_ir, tt_zr, tt_lr, tt_vr, tt_cv, tt_cs, tt_max, tt_min, tt_rem, tt_xor, tt_len, tt_cp, tt_thr, tt_xv, tt_xs, k_sv, k_cl, k_kz, List.getElem?_cons_zero, List.getElem?_cons_succ, List.drop_succ_cons, List.drop_zero, List.take_succ_cons, List.take_zero, List.reverse_cons, List.reverse_nil, List.nil_append, List.cons_append, List.length_cons, List.length_nil, Option.toList_some, Option.toList_none, Nat.reduceAdd, Nat.reduceLeDiff, true_and, and_true, sp_I, sp_II, sp_III, sp_JI, sp_JJ, sp_R2, sp_R5I, sp_V]
  refine ⟨fun q => ?_, fun q => ?_⟩
  · rw [if_pos q] at hu
    exact s_335 J hT hx hj hu hbe hco hpc hk
  · rw [if_neg q] at hu
    exact s_335 J hT hx hj hu hbe hco hpc hk
theorem lt0_nI {n : Nat} (h : n < 2 ^ 31) : nI n ≤ 0 ↔ ¬ 0 < n := by
  rw [nI_le0 h]
  omega
theorem s_48 (J : Jv F T (M.1 0)) (hT : T ≤ 1000) (hx : bM x = false) (hj : vC (M.1 0) x 0 = 1) (hbd : bd = vC (M.1 0) x 1) (hk : ∀ g4 g5 g6 g7 g8 g9 g10 g11 g12 g13, K (lS ad most jn (x + 1) g4 g5 g6 g7 g8 g9 g10 g11 g12 g13) [] M) : T_L_sound_48 ad res K (lS ad most jn x (oI bd) (oI 0) (oI 0) (oI 0) (oI 0) (oI 0) g10 g11 g12 g13) [] M := by
  have iv := J.1.1
  simp only [T_L_sound_48]
  refine lp_of (σ := Nat × Option Value × Option Value × Option Value × Option Value) (fun q => q.1 ≤ 4) (fun q => lS ad most jn x (oI bd) (oI (nI (chA (M.1 0) x q.1))) (oI (nI (siA (M.1 0) x q.1))) (oI (nI (beA (M.1 0) x q.1))) (oI (nI (coA (M.1 0) x q.1))) (oI (nI q.1)) q.2.1 q.2.2.1 q.2.2.2.1 q.2.2.2.2) (fun _ => M) (fun q => 4 - q.1) ?_ (0, g10, g11, g12, g13) (by omega)
  rintro k1 ⟨j, a10, a11, a12, a13⟩ hj4 hk1
  dsimp only at hj4 hk1 ⊢
  by_cases h4 : j = 4
  · subst h4
    obtain ⟨h1, h2, h3, h5⟩ := n_ch J hx hj
    subst hbd
    have m5 := e_member (ad := ad) (M := M) (w := 5) hx (by decide)
    have m6 := e_member (ad := ad) (M := M) (w := 6) hx (by decide)
    have ep := e_pieces (ad := ad) (M := M) hx hj
    simp only [tt_no, m5, m6, ep, tt_c, tt_lc, tt_il, tt_ll, tt_al, tt_is, tt_lsv, tt_as, tt_inc, tt_add, tt_sub, tt_mul, tt_and, tt_ladd, tt_lmul, tt_i2l, tt_lcmp, tt_dupr, tt_dup2, tt_eq0, tt_lt0, tt_le0, tt_ge0, tt_gt0, tt_eq2, tt_lt2, tt_ge2, tt_gt2, tt_le2, tt_gr, tt_gi, tt_pi, tt_gl, tt_pl, tt_ia, tt_st, tt_ir, tt_zr, tt_lr, tt_vr, tt_cv, tt_cs, tt_max, tt_min, tt_rem, tt_xor, tt_len, tt_cp, tt_thr, tt_xv, tt_xs, k_sv, k_cl, k_kz, List.getElem?_cons_zero, List.getElem?_cons_succ, List.drop_succ_cons, List.drop_zero, List.take_succ_cons, List.take_zero, List.reverse_cons, List.reverse_nil, List.nil_append, List.cons_append, List.length_cons, List.length_nil, Option.toList_some, Option.toList_none, Nat.reduceAdd, Nat.reduceLeDiff, true_and, and_true, sp_I, sp_II, sp_III, sp_JI, sp_JJ, sp_R2, sp_R5I, sp_V]
    refine ⟨fun _ => ⟨fun q => h1 q, fun _ => ⟨fun q => h2 q, fun _ => ⟨fun _ => ⟨fun q => ?_, fun q => ?_⟩, fun q => q h3⟩⟩⟩, fun q => absurd (by decide) q⟩
    · rw [if_neg (Int32.not_lt.mpr q)] at h5
      exact s_325 J hT hx hj h5 rfl rfl rfl hk
    · rw [if_pos (Int32.not_le.mp q)] at h5
      exact s_325 J hT hx hj h5 rfl rfl rfl hk
  · have hS := bS_n (show j < 4 by omega)
    have hcl := cnt_le (M.1 0) x (nI j)
    have hsl := stN_le (M.1 0) x (nI j)
    have hgt := st_gt iv hS hx
    have g4' : ¬ (4 : Int32) ≤ nI j := fun q => by
      rw [show (4 : Int32) = nI 4 from rfl, nI_leI (by omega) (by omega)] at q
      omega
    have hst : ¬ stC (M.1 0) x (nI j) ≤ nI (cnt (M.1 0) x (nI j)) := fun q => by
      rw [stC_n, nI_leI (by omega) (by omega)] at q
      omega
    have hle := lt0_nI (n := cnt (M.1 0) x (nI j)) (by omega)
    have hrm : bI (rmC (M.1 0) x (nI j)) = 1 → ¬ dC (M.1 0) x (nI j) < 0 ∧ nI (chA (M.1 0) x (j + 1)) < bd := fun q => by
      have hr : rmC (M.1 0) x (nI j) = true := by
        cases h : rmC (M.1 0) x (nI j)
        · rw [h] at q
          exact absurd q (by decide)
        · rfl
      obtain ⟨⟨k, hk'⟩, -⟩ := rmC_con iv hS hx hr
      have hd := dC_en (Or.inl rfl) hk'
      have hkl := en_le (Or.inl rfl) hk'
      rw [if_pos rfl] at hd
      obtain ⟨b, b1, b2, b3⟩ := J.1.2.1.1 x hx hj
      have hkc := iv.2.2.2.2.1 x hx
      have hm := chA_mono (M.1 0) x (show j + 1 ≤ 4 by omega)
      rw [chA_4] at hm
      have htl := tot_le (M.1 0) x
      unfold rmC at hr
      rw [if_neg (bM_ne100 hx)] at hr
      simp only [Bool.and_eq_true, decide_eq_true_eq] at hr
      have h2 := hr.1.2
      rw [b2, hkc.1] at h2
      have := nlt_of (by omega) (by omega) h2
      rw [hd, hbd, b2, nI_ltI (by omega) (by omega)]
      exact ⟨fun q2 => nI_pos (by omega) q2, by omega⟩
    simp only [tt_c, tt_lc, tt_il, tt_ll, tt_al, tt_is, tt_lsv, tt_as, tt_inc, tt_add, tt_sub, tt_mul, tt_and, tt_ladd, tt_lmul, tt_i2l, tt_lcmp, tt_dupr, tt_dup2, tt_eq0, tt_lt0, tt_le0, tt_ge0, tt_gt0, tt_eq2, tt_lt2, tt_ge2, tt_gt2, tt_le2, tt_gr, tt_gi, tt_pi, tt_gl, tt_pl, tt_ia, tt_st, tt_ir, tt_zr, tt_lr, tt_vr, tt_cv, tt_cs, tt_max, tt_min, tt_rem, tt_xor, tt_len, tt_cp, tt_thr, tt_xv, tt_xs, k_sv, k_cl, k_kz, List.getElem?_cons_zero, List.getElem?_cons_succ, List.drop_succ_cons, List.drop_zero, List.take_succ_cons, List.take_zero, List.reverse_cons, List.reverse_nil, List.nil_append, List.cons_append, List.length_cons, List.length_nil, Option.toList_some, Option.toList_none, Nat.reduceAdd, Nat.reduceLeDiff, true_and, and_true, sp_I, sp_II, sp_III, sp_JI, sp_JJ, sp_R2, sp_R5I, sp_V]
    refine ⟨fun q => absurd q g4', fun _ => ?_⟩
    refine s_57 (ch := nI (chA (M.1 0) x (j + 1))) (st := nI (siA (M.1 0) x (j + 1))) (be := nI (beA (M.1 0) x (j + 1))) (co := nI (coA (M.1 0) x (j + 1))) iv hx hS hj hst hrm ?_ ?_ ?_ ?_ (fun a b c d => ?_)
    · rw [nI_add]
      rfl
    · by_cases h : 0 < cnt (M.1 0) x (nI j)
      · rw [if_neg (fun q => hle.mp q h), nI_1]
        unfold siA
        rw [aS, if_pos h]
      · rw [if_pos (hle.mpr h), Int32.add_zero]
        unfold siA
        rw [aS, if_neg h]
        rfl
    · by_cases h : 0 < cnt (M.1 0) x (nI j)
      · rw [if_neg (fun q => hle.mp q h), stC_n, nIs1 _ (by omega), nI_add]
        unfold beA
        rw [aS, if_pos h]
      · rw [if_pos (hle.mpr h), Int32.add_zero]
        unfold beA
        rw [aS, if_neg h]
        rfl
    · by_cases h : 0 < dC (M.1 0) x (nI j)
      · rw [if_pos h, nI_1]
        unfold coA
        rw [aS, if_pos h]
      · rw [if_neg h, Int32.add_zero]
        unfold coA
        rw [aS, if_neg h]
        rfl
    · have := hk1 (j + 1, a, b, c, d) (by omega) (by dsimp only; omega)
      dsimp only at this
      rw [nI_succ] at this
      exact this
end SN

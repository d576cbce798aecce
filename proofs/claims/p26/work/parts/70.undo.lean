/-! the undo stack, a new object -/
theorem cg_v {c c' : Ce} (h : ∀ j, j < 459 → c' j = c j) (y u : Int32) : vC c' y u = vC c y u := by
  by_cases hy : bM y = false
  · by_cases hu : bV u = false
    · rw [vC_in hy hu, vC_in hy hu]
      obtain ⟨i, hi, rfl⟩ := bM_of hy
      obtain ⟨j, hj, rfl⟩ := bV_of hu
      rw [ix_v hi hj]
      exact h _ (by omega)
    · rw [vC_out (Or.inr (bVt hu)), vC_out (Or.inr (bVt hu))]
  · rw [vC_out (Or.inl (bMt hy)), vC_out (Or.inl (bMt hy))]
theorem cg_p {c c' : Ce} (h : ∀ j, j < 459 → c' j = c j) (y t : Int32) : pC c' y t = pC c y t := by
  by_cases hy : bM y = false
  · by_cases hu : bS t = false
    · rw [pC_in hy hu, pC_in hy hu]
      obtain ⟨i, hi, rfl⟩ := bM_of hy
      obtain ⟨j, hj, rfl⟩ := bS_of hu
      rw [ix_p hi hj]
      exact h _ (by omega)
    · rw [pC_out (Or.inr (bSt hu)), pC_out (Or.inr (bSt hu))]
  · rw [pC_out (Or.inl (bMt hy)), pC_out (Or.inl (bMt hy))]
theorem cg_f {c c' : Ce} (h : ∀ j, j < 459 → c' j = c j) (k : Int32) : figC c' k = figC c k := by
  by_cases hk : bF k = false
  · rw [figC_in hk, figC_in hk]
    obtain ⟨j, hj, rfl⟩ := bF_of hk
    rw [ix_f hj]
    exact h _ (by omega)
  · rw [figC_out (bFt hk), figC_out (bFt hk)]
theorem fm_up {t : Nat} (ht : t < 4) : fmI (nI t + 1) 4 = nI ((t + 1) % 4) := by
  have h : t = 0 ∨ t = 1 ∨ t = 2 ∨ t = 3 := by omega
  rcases h with rfl | rfl | rfl | rfl <;> decide
theorem fm_dn {t : Nat} (ht : t < 4) : fmI (nI t - 1) 4 = nI ((t + 3) % 4) := by
  have h : t = 0 ∨ t = 1 ∨ t = 2 ∨ t = 3 := by omega
  rcases h with rfl | rfl | rfl | rfl <;> decide
theorem nx_459 {t : Nat} : nI t * 459 = nI (459 * t) := by
  rw [show (459 : Int32) = nI 459 from rfl, pk_mul, Nat.mul_comm]
theorem nx_in {t : Nat} (ht : t < 4) : ¬ (nI (459 * t) < 0 ∨ 1377 < nI (459 * t)) := by
  rintro (h | h)
  · exact nI_pos (by omega) h
  · rw [show (1377 : Int32) = nI 1377 from rfl, nI_ltI (by omega) (by omega)] at h
    omega
theorem poM_eq {M : Mm} {n t : Nat} (ht : t < 4) (h1 : M.1 4 0 = nI (n + 1)) (h6 : M.1 4 1 = nI t) : poM M = k_cp (poN M) 1 0 (459 * ((t + 3) % 4)) 0 459 ∧ (poN M).1 4 0 = nI n ∧ (poN M).1 4 1 = nI ((t + 3) % 4) := by
  have e1 : (poN M).1 4 1 = nI ((t + 3) % 4) := by
    show fmI (M.1 4 1 - 1) 4 = _
    rw [h6, fm_dn ht]
  have e0 : (poN M).1 4 0 = nI n := by
    show M.1 4 0 - 1 = _
    rw [h1, nI_pred]
  refine ⟨?_, e0, e1⟩
  unfold poM
  rw [e1, nx_459, if_neg (nx_in (by omega)), nI_clamp (by omega)]
def Us (M : Mm) : Prop := ∃ n t : Nat, n ≤ 4 ∧ t < 4 ∧ M.1 4 0 = nI n ∧ M.1 4 1 = nI t
def LI (F T : Nat) (M : Mm) : Prop := Jv F T (M.1 0) ∧ F ≤ 8 ∧ Us M
theorem ps_eq {M : Mm} {n t : Nat} (h2 : n ≤ 4) (h3 : t < 4) (h4 : M.1 4 0 = nI n) (h6 : M.1 4 1 = nI t) : (psM M).1 1 = va_cpy (M.1 0) (M.1 1) 0 (459 * t) 459 ∧ (psM M).1 4 1 = nI ((t + 1) % 4) ∧ (psM M).1 4 0 = nI (if n = 4 then 4 else n + 1) := by
  have pu : puM M = k_cp M 0 1 0 (459 * t) 459 := by
    unfold puM
    rw [h6, nx_459, if_neg (nx_in h3), nI_clamp (by omega)]
  refine ⟨?_, ?_, ?_⟩
  · unfold psM
    rw [pu]
    rfl
  · unfold psM
    rw [pu]
    show fmI (M.1 4 1 + 1) 4 = _
    rw [h6, fm_up h3]
  · unfold psM
    rw [pu]
    show (if (4 : Int32) < M.1 4 0 + 1 then 4 else M.1 4 0 + 1) = _
    rw [h4, nI_1]
    by_cases h : n = 4
    · rw [if_pos h, h]
      rfl
    · rw [if_neg h, if_neg]
      rw [show (4 : Int32) = nI 4 from rfl, nI_ltI (by omega) (by omega)]
      omega
theorem kr0_4 (M : Mm) (c : Ce) : (k_r0 M c).1 4 = M.1 4 := rfl
theorem kr0_1 (M : Mm) (c : Ce) : (k_r0 M c).1 1 = M.1 1 := rfl
theorem Us_ps {M : Mm} (h : Us M) (c : Ce) : Us (k_r0 (psM M) c) := by
  obtain ⟨n, t, h2, h3, h4, h6⟩ := h
  obtain ⟨-, p2, p3⟩ := ps_eq h2 h3 h4 h6
  exact ⟨if n = 4 then 4 else n + 1, (t + 1) % 4, by split <;> omega, by omega, by rw [kr0_4]; exact p3, by rw [kr0_4]; exact p2⟩
theorem LI_op {F F' T T' : Nat} {M : Mm} {c : Ce} (h : LI F T M) (hJ : Jv F' T' c) (hF : F' ≤ 8) : LI F' T' (k_r0 (psM M) c) := ⟨hJ, hF, Us_ps h.2.2 c⟩
theorem kcp_4 (M : Mm) (a b c : Nat) : (k_cp M 1 0 a b c).1 4 = M.1 4 := rfl
theorem kcp_0 (M : Mm) (a b c : Nat) : (k_cp M 1 0 a b c).1 0 = va_cpy (M.1 1) (M.1 0) a b c := rfl
theorem poN_1 (M : Mm) : (poN M).1 1 = M.1 1 := rfl
theorem un_1 {ad : Nat → Nat} {c0 : Ce} {r0 : Nat → Int32} {M1 : Mm} {t n' : Nat} (h3 : t < 4) (hn : n' ≤ 3) (q1 : M1.1 1 = va_cpy c0 r0 0 (459 * t) 459) (q2 : M1.1 4 1 = nI ((t + 1) % 4)) (q3 : M1.1 4 0 = nI (n' + 1)) : sn_undo ad [.ref (ad 0)] M1 = some (.inl (some (.int (nI n')), poM M1)) ∧ Us (poM M1) ∧ ∀ j, j < 459 → (poM M1).1 0 j = c0 j := by
  obtain ⟨e1, e2, e3⟩ := poM_eq (n := n') (t := (t + 1) % 4) (by omega) q3 q2
  have e4 : (poM M1).1 4 0 = nI n' := by
    rw [e1, kcp_4]
    exact e2
  have e5 : (poM M1).1 4 1 = nI (((t + 1) % 4 + 3) % 4) := by
    rw [e1, kcp_4]
    exact e3
  refine ⟨?_, ⟨n', ((t + 1) % 4 + 3) % 4, by omega, by omega, e4, e5⟩, fun j hj => ?_⟩
  · have h0 : ¬ M1.1 4 0 = 0 := by
      rw [q3]
      exact nI_ne0 (by omega) (by omega)
    have h1 : f_undo M1 = some (.inl (some (.int (nI n')), poM M1)) := by
      unfold f_undo
      rw [if_neg h0, e4]
    have h2 : sn_undo ad [.ref (ad 0)] M1 = wN (f_undo M1) := if_pos rfl
    rw [h2, h1]
    rfl
  · have ht : ((t + 1) % 4 + 3) % 4 = t := by omega
    rw [e1, kcp_0, poN_1, q1, ht, pk_cpy_in (by omega) (by omega), pk_cpy_in (by omega) (by omega)]
    exact congrArg c0 (by omega)
theorem un_ok {ad : Nat → Nat} {M : Mm} (u : Us M) (c1 : Ce) : ∃ n : Nat, n ≤ 3 ∧ sn_undo ad [.ref (ad 0)] (k_r0 (psM M) c1) = some (.inl (some (.int (nI n)), poM (k_r0 (psM M) c1))) ∧ Us (poM (k_r0 (psM M) c1)) ∧ ∀ j, j < 459 → (poM (k_r0 (psM M) c1)).1 0 j = M.1 0 j := by
  obtain ⟨n, t, h2, h3, h4, h6⟩ := u
  obtain ⟨p1, p2, p3⟩ := ps_eq h2 h3 h4 h6
  rw [← kr0_1 (psM M) c1] at p1
  rw [← kr0_4 (psM M) c1] at p2 p3
  obtain ⟨n', hn, hn'⟩ : ∃ n', n' ≤ 3 ∧ (if n = 4 then 4 else n + 1) = n' + 1 := by
    by_cases h : n = 4
    · exact ⟨3, by omega, by rw [if_pos h]⟩
    · exact ⟨n, by omega, by rw [if_neg h]⟩
  rw [hn'] at p3
  exact ⟨n', hn, un_1 h3 hn p1 p2 p3⟩
theorem Jv_VE {F T : Nat} {c c' : Ce} (h : VE c' c) (J : Jv F T c) : Jv F T c' := by
  obtain ⟨⟨g1, g2, g3, g4⟩, h8, h9⟩ := J
  exact ⟨⟨Iv_VE h g1, Bd_cg g2 h.1 (fun y => h.2.1 y 0) (fun y => h.2.1 y 1) (h.2.2 9), Sn_cg g3 (h.2.2 1) (fun y _ hz => by
    rw [h.2.1] at hz
    exact ⟨hz, h.2.1 y 7, h.2.1 y 8, h.2.1 y 9⟩), fun i i1 i2 => by
    rw [h.2.1]
    exact g4 i i1 i2⟩, (h.2.2 8).trans h8, (h.2.2 9).trans h9⟩
theorem o_tick5 {ad : Nat → Nat} {M : Mm} {F T : Nat} (h : LI F T M) : ∃ (r u : Nat) (M1 M2 : Mm), sn_tick ad [.ref (ad 0), .int 5] M = some (.inl (some (.int (nI r)), M1)) ∧ r < 1000 ∧ LI F (T + 5) M1 ∧ sn_undo ad [.ref (ad 0)] M1 = some (.inl (some (.int (nI u)), M2)) ∧ u < 1000 ∧ LI F T M2 ∧ figC (M2.1 0) 8 = figC (M.1 0) 8 ∧ figC (M2.1 0) 0 = figC (M.1 0) 0 := by
  obtain ⟨hJ, hF, hU⟩ := h
  obtain ⟨k1, r, k2, k3⟩ := j_tick hJ (l := 5) (by omega)
  obtain ⟨u, u1, u2, u3, u4⟩ := un_ok (ad := ad) hU (tkC (M.1 0) (nI 5)).2
  refine ⟨r, u, k_r0 (psM M) (tkC (M.1 0) (nI 5)).2, _, ?_, by omega, LI_op ⟨hJ, hF, hU⟩ k1 hF, u2, by omega, ⟨Jv_VE ⟨cg_p u4, cg_v u4, cg_f u4⟩ hJ, hF, u3⟩, cg_f u4 8, cg_f u4 0⟩
  have e : f_tick (nI 5) M = some (.inl (some (.int (nI r)), k_r0 (psM M) (tkC (M.1 0) (nI 5)).2)) := by
    unfold f_tick
    rw [if_neg (by decide), ← k3]
  have e2 : sn_tick ad [.ref (ad 0), .int (nI 5)] M = wN (f_tick (nI 5) M) := if_pos rfl
  rw [show (5 : Int32) = nI 5 from rfl, e2, e]
  rfl

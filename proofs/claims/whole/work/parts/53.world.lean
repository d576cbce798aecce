/-! THE TWO SIDES: the kept states, and the calls on the whole memory -/
theorem cg_v {c c' : Ce} (h : ∀ j, j < 459 → c' j = c j) (y u : Int32) : vC c' y u = vC c y u := by
  by_cases hy : bM y = false
  · by_cases hu : bV u = false
    · rw [vC_in hy hu, vC_in hy hu]
      obtain ⟨i, hi, rfl⟩ := bM_of hy
      obtain ⟨j, hj, rfl⟩ := bV_of hu
      rw [ix_v hi hj]
      exact h _ (by omega)
    · rw [vC_out (Or.inr (bVt hu)), vC_out (Or.inr (bVt hu))]
  · rw [vC_out (Or.inl (bMt hy)), vC_out (Or.inl (bMt hy))]
theorem cg_p {c c' : Ce} (h : ∀ j, j < 459 → c' j = c j) (y t : Int32) : pC c' y t = pC c y t := by
  by_cases hy : bM y = false
  · by_cases hu : bS t = false
    · rw [pC_in hy hu, pC_in hy hu]
      obtain ⟨i, hi, rfl⟩ := bM_of hy
      obtain ⟨j, hj, rfl⟩ := bS_of hu
      rw [ix_p hi hj]
      exact h _ (by omega)
    · rw [pC_out (Or.inr (bSt hu)), pC_out (Or.inr (bSt hu))]
  · rw [pC_out (Or.inl (bMt hy)), pC_out (Or.inl (bMt hy))]
theorem cg_f {c c' : Ce} (h : ∀ j, j < 459 → c' j = c j) (k : Int32) : figC c' k = figC c k := by
  by_cases hk : bF k = false
  · rw [figC_in hk, figC_in hk]
    obtain ⟨j, hj, rfl⟩ := bF_of hk
    rw [ix_f hj]
    exact h _ (by omega)
  · rw [figC_out (bFt hk), figC_out (bFt hk)]
theorem Ok_m {lo : Int32 → Nat} {d : Int32} {c : Ce} {m m' : Re} (h : ∀ j, j < 395 → m' j = m j) (o : Ok lo d c m) : Ok lo d c m' := by
  have e : ∀ y u, bM y = false → bW u = false → oR m' y u = oR m y u := fun y u hy hu => by
    obtain ⟨i, hi, rfl⟩ := bM_of hy
    obtain ⟨j, hj, rfl⟩ := bW_of hu
    unfold oR
    rw [ix_r hi hj]
    exact h _ (by omega)
  obtain ⟨iv, ⟨r0, r1⟩, rf⟩ := o
  refine ⟨iv, ⟨fun x hx => (e x 0 hx bW_0).trans (r0 x hx), fun x hx h0 => ?_⟩, RlF_eq rf (fun j hj => h j (by omega)) (fun _ _ => rfl)⟩
  obtain ⟨a1, a2, a3, a4, a5, a6, a7, a8⟩ := r1 x hx h0
  exact ⟨(e x 1 hx bW_1).trans a1, (e x 2 hx bW_2).trans a2, (e x 3 hx bW_3).trans a3, fun h3 => (e x 4 hx bW_4).trans (a4 h3), (e x 5 hx bW_5).trans a5, (e x 6 hx bW_6).trans a6, (e x 7 hx bW_7).trans a7, fun s hs => (e x (8 + s) hx (bW_8 hs)).trans (a8 s hs)⟩
theorem St_cg {c c' : Ce} {m m' : Re} (hc : ∀ j, j < 459 → c' j = c j) (hm : ∀ j, j < 395 → m' j = m j) (h : St c m) : St c' m' :=
  Ok_VE ⟨cg_p hc, cg_v hc, cg_f hc⟩ (Ok_m hm h)
def slC (r : Re) (k : Nat) : Ce := fun j => r (459 * k + j)
def slM (S : Re) (k : Nat) : Re := fun j => S (395 * k + j)
/-- how the two stand in the memory -/
def Wr (M : Mm) (n t : Nat) : Prop := n ≤ 4 ∧ t < 4 ∧ M.1 4 0 = nI n ∧ M.1 4 2 = nI n ∧ M.1 4 1 = nI t ∧ ∀ i, i < n → St (slC (M.1 1) ((t + 4 - n + i) % 4)) (slM (M.1 3) i)
def WR (M : Mm) : Prop := St (M.1 0) (M.1 2) ∧ ∃ n t, Wr M n t
theorem WR_kc {M : Mm} (h : WR M) (v : Int32) : WR (kc M v) := by
  obtain ⟨h1, n, t, h2, h3, h4, h5, h6, h7⟩ := h
  exact ⟨h1, n, t, h2, h3, h4, h5, h6, h7⟩
theorem WR_L {M M' : Mm} (h : WR M) (e : M'.1 = M.1) : WR M' := by
  obtain ⟨h1, n, t, h2, h3, h4, h5, h6, h7⟩ := h
  unfold WR Wr
  rw [e]
  exact ⟨h1, n, t, h2, h3, h4, h5, h6, h7⟩
theorem fm_up {t : Nat} (ht : t < 4) : fmI (nI t + 1) 4 = nI ((t + 1) % 4) := by
  have h : t = 0 ∨ t = 1 ∨ t = 2 ∨ t = 3 := by omega
  rcases h with rfl | rfl | rfl | rfl <;> decide
theorem fm_dn {t : Nat} (ht : t < 4) : fmI (nI t - 1) 4 = nI ((t + 3) % 4) := by
  have h : t = 0 ∨ t = 1 ∨ t = 2 ∨ t = 3 := by omega
  rcases h with rfl | rfl | rfl | rfl <;> decide
theorem nx_459 {t : Nat} : nI t * 459 = nI (459 * t) := by
  rw [show (459 : Int32) = nI 459 from rfl, pk_mul, Nat.mul_comm]
theorem nx_in {t : Nat} (ht : t < 4) : ¬ (nI (459 * t) < 0 ∨ 1377 < nI (459 * t)) := by
  rintro (h | h)
  · exact nI_pos (by omega) h
  · rw [show (1377 : Int32) = nI 1377 from rfl, nI_ltI (by omega) (by omega)] at h
    omega
/-- after a change: the state of before is kept on both sides -/
theorem WR_ch {M : Mm} (h : WR M) {c : Ce} {m : Re} (hs : St c m) (M1 : Mm) (e1 : M1.1 0 = c) (e2 : M1.1 2 = m) (er1 : M1.1 1 = (psM M).1 1) (e40 : M1.1 4 0 = (psM M).1 4 0) (e41 : M1.1 4 1 = (psM M).1 4 1) (er3 : M1.1 3 = (keM M).1 3) (e42 : M1.1 4 2 = (keM M).1 4 2) : WR M1 := by
  obtain ⟨h1, n, t, h2, h3, h4, h5, h6, h7⟩ := h
  have pu : puM M = k_cp M 0 1 0 (459 * t) 459 := by
    unfold puM
    rw [h6, nx_459, if_neg (nx_in h3), nI_clamp (by omega)]
  have p1 : (psM M).1 1 = va_cpy (M.1 0) (M.1 1) 0 (459 * t) 459 := by
    unfold psM
    rw [pu]
    rfl
  have p41 : (psM M).1 4 1 = nI ((t + 1) % 4) := by
    unfold psM
    rw [pu]
    show fmI (M.1 4 1 + 1) 4 = _
    rw [h6, fm_up h3]
  have p40 : (psM M).1 4 0 = nI (if n = 4 then 4 else n + 1) := by
    unfold psM
    rw [pu]
    show (if (4 : Int32) < M.1 4 0 + 1 then 4 else M.1 4 0 + 1) = _
    rw [h4, nI_1]
    by_cases h : n = 4
    · rw [if_pos h, h]
      rfl
    · rw [if_neg h, if_neg]
      rw [show (4 : Int32) = nI 4 from rfl, nI_ltI (by omega) (by omega)]
      omega
  have hk : (keM M).1 4 2 = nI (if n = 4 then 4 else n + 1) ∧ (keM M).1 3 = if n = 4 then wrK (shK (M.1 3) 1185) (M.1 2) 3 395 else wrK (M.1 3) (M.1 2) n 395 := by
    unfold keM
    rw [h5]
    by_cases h : n = 4
    · subst h
      rw [if_pos (show nI 4 = 4 from rfl), if_pos rfl, if_pos rfl]
      exact ⟨k_up4_4 _ _ _, rfl⟩
    · rw [if_neg, if_neg h, if_neg h, nI_clamp (by omega)]
      · exact ⟨k_up4_4 _ _ _, rfl⟩
      · intro q
        rw [show (4 : Int32) = nI 4 from rfl, nI_eq (by omega) (by omega)] at q
        exact h q
  refine ⟨by rw [e1, e2]; exact hs, if n = 4 then 4 else n + 1, (t + 1) % 4, by split <;> omega, by omega, e40.trans p40, e42.trans hk.1, e41.trans p41, fun i hi => ?_⟩
  rw [er1, p1, er3, hk.2]
  by_cases h : n = 4
  · simp only [if_pos h] at hi ⊢
    subst h
    by_cases hi3 : i = 3
    · subst hi3
      refine St_cg (c := M.1 0) (m := M.1 2) (fun j hj => ?_) (fun j hj => ?_) h1
      · unfold slC
        rw [show ((t + 1) % 4 + 4 - 4 + 3) % 4 = t by omega, pk_cpy_in (by omega) (by omega)]
        exact congrArg (M.1 0) (by omega)
      · unfold slM wrK
        rw [if_pos (by omega)]
        exact congrArg (M.1 2) (by omega)
    · refine St_cg (fun j hj => ?_) (fun j hj => ?_) (h7 (i + 1) (by omega))
      · unfold slC
        rw [show ((t + 1) % 4 + 4 - 4 + i) % 4 = (t + 4 - 4 + (i + 1)) % 4 by omega]
        have : ¬ (t + 4 - 4 + (i + 1)) % 4 = t := by omega
        generalize (t + 4 - 4 + (i + 1)) % 4 = k at this
        rw [pk_cpy_out (by omega)]
      · unfold slM wrK shK
        rw [if_neg (by omega), if_pos (by omega)]
        exact congrArg (M.1 3) (by omega)
  · simp only [if_neg h] at hi ⊢
    by_cases hin : i = n
    · subst hin
      refine St_cg (c := M.1 0) (m := M.1 2) (fun j hj => ?_) (fun j hj => ?_) h1
      · unfold slC
        rw [show ((t + 1) % 4 + 4 - (i + 1) + i) % 4 = t by omega, pk_cpy_in (by omega) (by omega)]
        exact congrArg (M.1 0) (by omega)
      · unfold slM wrK
        rw [if_pos (by omega)]
        exact congrArg (M.1 2) (by omega)
    · refine St_cg (fun j hj => ?_) (fun j hj => ?_) (h7 i (by omega))
      · unfold slC
        rw [show ((t + 1) % 4 + 4 - (n + 1) + i) % 4 = (t + 4 - n + i) % 4 by omega]
        have : ¬ (t + 4 - n + i) % 4 = t := by omega
        generalize (t + 4 - n + i) % 4 = k at this
        rw [pk_cpy_out (by omega)]
      · unfold slM wrK
        rw [if_neg (by omega)]
theorem WR_bR {M : Mm} (h : WR M) : bR (M.1 4 2) 0 4 = false := by
  obtain ⟨-, n, t, h2, -, -, h5, -⟩ := h
  rw [h5]
  exact bR_n (n := 4) h2 (by omega)
theorem poM_eq {M : Mm} {n t : Nat} (ht : t < 4) (h1 : M.1 4 0 = nI (n + 1)) (h6 : M.1 4 1 = nI t) : poM M = k_cp (poN M) 1 0 (459 * ((t + 3) % 4)) 0 459 ∧ (poN M).1 4 0 = nI n ∧ (poN M).1 4 1 = nI ((t + 3) % 4) := by
  have e1 : (poN M).1 4 1 = nI ((t + 3) % 4) := by
    show fmI (M.1 4 1 - 1) 4 = _
    rw [h6, fm_dn ht]
  have e0 : (poN M).1 4 0 = nI n := by
    show M.1 4 0 - 1 = _
    rw [h1, nI_pred]
  refine ⟨?_, e0, e1⟩
  unfold poM
  rw [e1, nx_459, if_neg (nx_in (by omega)), nI_clamp (by omega)]
theorem WR_un {M : Mm} {n t : Nat} (h : Wr M (n + 1) t) : WR (unN (poM M) n) := by
  obtain ⟨h2, h3, h4, h5, h6, h7⟩ := h
  obtain ⟨p1, p2, p3⟩ := poM_eq h3 h4 h6
  have hl := h7 n (by omega)
  refine ⟨?_, n, (t + 3) % 4, by omega, by omega, ?_, (show _ = (k_up (kc (poM M) 0) 4 2 (nI n)).1 4 2 from rfl).trans (k_up4_4 _ _ _), ?_, fun i hi => ?_⟩
  · refine St_cg (fun j hj => ?_) (fun j hj => ?_) hl
    · show (poM M).1 0 j = _
      rw [p1]
      show va_cpy (M.1 1) (M.1 0) (459 * ((t + 3) % 4)) 0 459 j = _
      rw [pk_cpy_in (by omega) (by omega)]
      unfold slC
      rw [show (t + 4 - (n + 1) + n) % 4 = (t + 3) % 4 by omega]
      exact congrArg (M.1 1) (by omega)
    · show rdK ((poM M).1 3) _ n 395 j = _
      rw [p1]
      unfold rdK slM
      rw [if_pos hj]
      rfl
  · show (poM M).1 4 0 = _
    rw [p1]
    exact p2
  · show (poM M).1 4 1 = _
    rw [p1]
    exact p3
  · have := h7 i (by omega)
    rw [show (t + 4 - (n + 1) + i) % 4 = ((t + 3) % 4 + 4 - n + i) % 4 by omega] at this
    have e1 : (unN (poM M) n).1 1 = M.1 1 := by
      show (poM M).1 1 = _
      rw [p1]
      rfl
    have e3 : (unN (poM M) n).1 3 = M.1 3 := by
      show (poM M).1 3 = _
      rw [p1]
      rfl
    rw [e1, e3]
    exact this

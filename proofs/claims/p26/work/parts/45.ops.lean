/-! counters, and every change on what always holds -/
def Sn (T : Nat) (c : Ce) : Prop := figC c 1 = nI T ∧ ∀ y, bM y = false → vC c y 0 = 1 → ∃ g h m : Nat, vC c y 7 = nI g ∧ vC c y 8 = nI h ∧ vC c y 9 = nI m ∧ h + m ≤ T ∧ g ≤ 4 * T ∧ 3 * h ≤ g
def Hi (c : Ce) : Prop := ∀ i : Nat, 24 ≤ i → i < 32 → vC c (nI i) 0 = 0
def Kp (lo : Int32 → Nat) (T : Nat) (c : Ce) : Prop := Iv lo c ∧ Bd c ∧ Sn T c ∧ Hi c
section OP
variable {lo : Int32 → Nat} {c c' : Ce} {T : Nat}
theorem Sn_cg (h : Sn T c) (h1 : figC c' 1 = figC c 1) (hv : ∀ y, bM y = false → vC c' y 0 = 1 → vC c y 0 = 1 ∧ vC c' y 7 = vC c y 7 ∧ vC c' y 8 = vC c y 8 ∧ vC c' y 9 = vC c y 9) : Sn T c' := by
  refine ⟨h1.trans h.1, fun y hy h0 => ?_⟩
  obtain ⟨g0, g7, g8, g9⟩ := hv y hy h0
  rw [g7, g8, g9]
  exact h.2 y hy g0
theorem Sn_Pv (h : Sn T c) (p : Pv c c') : Sn T c' := Sn_cg h (p.2 1 (by decide) (by decide)) (fun y _ h0 => by
  rw [p.1 y 0 (by decide) (by decide)] at h0
  exact ⟨h0, p.1 y 7 (by decide) (by decide), p.1 y 8 (by decide) (by decide), p.1 y 9 (by decide) (by decide)⟩)
theorem Hi_Pv (h : Hi c) (p : Pv c c') : Hi c' := fun i h1 h2 => by
  rw [p.1 _ 0 (by decide) (by decide)]
  exact h i h1 h2
theorem Kp_ao (h : Kp lo T c) : Kp lo T (aoC c) ∧ Pv c (aoC c) := by
  obtain ⟨h1, h2, h3, h4⟩ := h
  obtain ⟨g1, g2, g3⟩ := aoC_iv h1 h2
  exact ⟨⟨g1, g2, Sn_Pv h3 g3, Hi_Pv h4 g3⟩, g3⟩
theorem Kp_to (h : Kp lo T c) {x : Int32} (hx : bM x = false) (h0 : vC c x 0 = 1) : Kp lo T (toC c x) := by
  obtain ⟨h1, h2, h3, h4⟩ := h
  obtain ⟨g1, g2, g3, -⟩ := toC_iv h1 hx h0
  refine ⟨g1, toC_bd h1 h2 hx h0, Sn_cg h3 (g3 1 (by decide) (by decide) (by decide)) (fun y _ hz => ?_), fun i i1 i2 => ?_⟩
  · rw [g2 y 0 (by decide) (by decide)] at hz
    by_cases hyx : y = x
    · rw [if_pos hyx] at hz
      cases hz
    · rw [if_neg hyx] at hz
      rw [g2 y 7 (by decide) (by decide), g2 y 8 (by decide) (by decide), g2 y 9 (by decide) (by decide), if_neg hyx, if_neg hyx, if_neg hyx]
      exact ⟨hz, rfl, rfl, rfl⟩
  · rw [g2 _ 0 (by decide) (by decide)]
    split
    · rfl
    · exact h4 i i1 i2
theorem Kp_af (h : Kp lo T c) {k : Int32} (v : Int32) (hk : bF k = false) (h0 : ¬ k = 0) (h1 : ¬ k = 1) (h8 : ¬ k = 8) (h9 : ¬ k = 9) (h10 : ¬ k = 10) : Kp lo T (afC c k v) := by
  obtain ⟨g1, g2, g3, g4⟩ := h
  exact ⟨Iv_af g1 v hk h0 h8 h10, Bd_af g2 v hk h9, Sn_cg g3 (by rw [figC_af c v hk, if_neg (Ne.symm h1)]) (fun y _ hz => by
    rw [vC_af c v hk] at hz
    exact ⟨hz, vC_af c v hk y 7, vC_af c v hk y 8, vC_af c v hk y 9⟩), fun i i1 i2 => by
    rw [vC_af c v hk]
    exact g4 i i1 i2⟩
theorem Kp_lo {lo' : Int32 → Nat} (h : Kp lo T c) (hl : ∀ x, bM x = false → vC c x 0 = 1 → lo' x ≤ lo x ∨ (lo' x ≤ 1 ∧ ¬ vC c x 4 = figC c 8) ∨ vC c x 3 = 0) : Kp lo' T c := ⟨Iv_lo h.1 hl, h.2⟩
/-- failures are noticed -/
theorem nf_kp (o : Kp (loN 0) T c) : Kp (loN 32) T (nfC c) ∧ Pw c (nfC c) := by
  have key : ∀ n, n ≤ 32 → Kp (loN n) T (fold2 nfF c n) ∧ Pw c (fold2 nfF c n) := by
    intro j
    induction j with
    | zero =>
      intro _
      rw [fold2_0]
      exact ⟨o, fun _ _ _ _ _ => rfl⟩
    | succ j ih =>
      intro hj
      obtain ⟨o, pw⟩ := ih (by omega)
      rw [fold2_s]
      generalize fold2 nfF c j = a at o pw ⊢
      have hM := bM_n (show j < 32 by omega)
      have hlo : ∀ y, bM y = false → loN (j + 1) y ≤ loN j y ∨ (loN (j + 1) y ≤ 1 ∧ y = nI j) := fun y hy => by
        obtain ⟨i, hi, rfl⟩ := bM_of hy
        unfold loN
        rw [nI_clamp (by omega)]
        by_cases hij : i = j
        · subst hij
          exact Or.inr ⟨by split <;> omega, rfl⟩
        · refine Or.inl ?_
          by_cases h1 : i < j
          · rw [if_pos h1, if_pos (by omega)]
            exact Nat.le_refl _
          · rw [if_neg h1, if_neg (by omega)]
            exact Nat.le_refl _
      unfold nfF flC
      by_cases h3 : vC a (nI j) 3 = 1
      · have h0 : vC a (nI j) 0 = 1 := by
          by_cases q : vC a (nI j) 0 = 1
          · exact q
          · rw [(o.1.2.1 _ hM (unj o.1 hM q)).1 3] at h3
            cases h3
        rw [if_pos (by simp [h3])]
        by_cases h4 : vC a (nI j) 4 = figC a 8
        · rw [if_pos h4]
          obtain ⟨-, t1, t2, -⟩ := toC_iv o.1 hM h0
          obtain ⟨g2, g3⟩ := Kp_ao (Kp_to o hM h0)
          refine ⟨Kp_lo (Kp_af g2 1 bF_5 (by decide) (by decide) (by decide) (by decide) (by decide)) (fun y hy hy0 => ?_), fun k k0 k5 k6 k7 => ?_⟩
          · rcases hlo y hy with q | q
            · exact Or.inl q
            · exfalso
              rw [vC_af _ _ bF_5, g3.1 y 0 (by decide) (by decide), t1 y 0 (by decide) (by decide), if_pos q.2] at hy0
              cases hy0
          · rw [figC_af _ _ bF_5, if_neg k5, g3.2 k k6 k7, t2 k k0 k6 k7]
            exact pw k k0 k5 k6 k7
        · rw [if_neg h4]
          refine ⟨Kp_lo o (fun y hy hy0 => ?_), pw⟩
          rcases hlo y hy with q | q
          · exact Or.inl q
          · refine Or.inr (Or.inl ⟨q.1, ?_⟩)
            rw [q.2]
            exact h4
      · rw [if_neg (by simpa using h3)]
        refine ⟨Kp_lo o (fun y hy hy0 => ?_), pw⟩
        rcases hlo y hy with q | q
        · exact Or.inl q
        · refine Or.inr (Or.inr ?_)
          rw [q.2] at hy0 ⊢
          exact (f01 o.1 hM hy0).resolve_right h3
  exact key 32 (Nat.le_refl _)
theorem tfC_z (c : Ce) {k : Int32} (h1 : ¬ k = 1) (h2 : ¬ k = 2) (h3 : ¬ k = 3) (h4 : ¬ k = 4) : tfC c k = 0 := by
  unfold tfC
  rw [if_neg h1]
  have : sumTo (fun i => if jnC c (nI i) = true then dfC c (nI i) k else 0) 32 = nI (cN (fun _ => false) 32) := sumTo_cN _ _ 32 (fun i _ => by
    unfold dfC
    simp [h2, h3, h4])
  rw [this, cN_zero (fun _ _ => rfl)]
  rfl
theorem sb_fz (c : Ce) (b : Int32) {k : Int32} (h1 : ¬ k = 1) (h2 : ¬ k = 2) (h3 : ¬ k = 3) (h4 : ¬ k = 4) : figC (sbC c b).2 k = figC c k := by
  rw [sb_f, tfC_z c h1 h2 h3 h4, Int32.zero_mul, Int32.add_zero]
theorem pcC_n (c : Ce) (x : Int32) : pcC c x = nI (cN (fun i => gC c x (nI i)) 4) := sumTo_cN _ _ 4 (fun i _ => rfl)
theorem Kp_sb (h : Kp lo T c) (b : Nat) : Kp lo (T + b) (sbC c (nI b)).2 := by
  obtain ⟨g1, g2, ⟨g3, g4⟩, g5⟩ := h
  have e : ∀ u, (∀ x, dvC c x u = 0) → ∀ y, vC (sbC c (nI b)).2 y u = vC c y u := fun u hu y => sb_ne c _ y hu
  have e0 := e 0 (dvC_0 c)
  refine ⟨Iv_cg g1 (sb_p c _) e0 (e 5 (fun _ => rfl)) (e 6 (fun _ => rfl)) (fun y hy hz w => ?_) (lo_eq g1 (e 3 (dvC_3 c)) (e 4 (dvC_4 c)) (sb_fz c _ (by decide) (by decide) (by decide) (by decide))) (sb_fz c _ (by decide) (by decide) (by decide) (by decide)) (by rw [sb_fz c _ (by decide) (by decide) (by decide) (by decide)]; exact g1.2.2.2.2.2.2.2), Bd_cg g2 (sb_p c _) e0 (e 1 (fun _ => rfl)) (sb_fz c _ (by decide) (by decide) (by decide) (by decide)), ⟨?_, fun y hy hz => ?_⟩, fun i i1 i2 => by rw [e0]; exact g5 i i1 i2⟩
  · rw [sb_v, if_neg, Int32.add_zero]
    · exact (g1.2.1 y hy hz).1 w
    · rintro ⟨-, q⟩
      simp only [jnC, decide_eq_true_eq] at q
      rw [q] at hz
      cases hz
  · rw [sb_f, g3]
    show nI T + 1 * nI b = _
    rw [Int32.one_mul, nI_add]
  · rw [e0] at hz
    obtain ⟨g, k, m, q1, q2, q3, q4, q5, q6⟩ := g4 y hy hz
    have hj : bM y = false ∧ jnC c y = true := ⟨hy, by simp [jnC, hz]⟩
    have hp := pcC_n c y
    have hl := cN_le (fun i => gC c y (nI i)) 4
    generalize cN (fun i => gC c y (nI i)) 4 = p at hp hl
    have h7 : vC (sbC c (nI b)).2 y 7 = nI (g + p * b) := by
      rw [sb_v, if_pos hj, q1]
      show nI g + pcC c y * nI b = _
      rw [hp, pk_mul, nI_add]
    have hlt : pcC c y < 3 ↔ p < 3 := by
      rw [hp, show (3 : Int32) = nI 3 from rfl, nI_ltI (by omega) (by omega)]
    have h8 : vC (sbC c (nI b)).2 y 8 = nI (k + (if p < 3 then 0 else b)) := by
      rw [sb_v, if_pos hj, q2]
      show nI k + haI c y * nI b = _
      unfold haI
      by_cases h : p < 3
      · rw [if_pos (hlt.mpr h), if_pos h, Int32.zero_mul, Int32.add_zero, Nat.add_zero]
      · rw [if_neg (fun q => h (hlt.mp q)), if_neg h, Int32.one_mul, nI_add]
    have h9 : ∃ d, d ≤ (if p < 3 then b else 0) ∧ vC (sbC c (nI b)).2 y 9 = nI (m + d) := by
      rw [sb_v, if_pos hj, q3]
      show ∃ d, _ ∧ nI m + miI c y * nI b = _
      unfold miI
      by_cases h : p < 3
      · rw [if_pos (hlt.mpr h), if_pos h]
        split
        · exact ⟨0, by omega, by rw [Int32.zero_mul, Int32.add_zero, Nat.add_zero]⟩
        · exact ⟨b, by omega, by rw [Int32.one_mul, nI_add]⟩
      · rw [if_neg (fun q => h (hlt.mp q)), if_neg h]
        exact ⟨0, by omega, by rw [Int32.zero_mul, Int32.add_zero, Nat.add_zero]⟩
    obtain ⟨d, d1, d2⟩ := h9
    have hpb : p * b ≤ 4 * b := Nat.mul_le_mul_right b hl
    refine ⟨_, _, _, h7, h8, d2, ?_, by omega, ?_⟩
    · split at d1 <;> rename_i h
      · rw [if_pos h]; omega
      · rw [if_neg h]; omega
    · by_cases h : p < 3
      · rw [if_pos h]; omega
      · have h3 : 3 * b ≤ p * b := Nat.mul_le_mul_right b (by omega)
        rw [if_neg h]
        omega
theorem sb_1n (c : Ce) (b : Nat) : ∃ k, k ≤ 32 * b ∧ (sbC c (nI b)).1 = nI k := by
  have h1 := (sb_n c (nI b) 32 (Nat.le_refl _)).2.2.2
  have h2 : sumTo (fun i => if jnC c (nI i) = true then dfC c (nI i) 4 else 0) 32 = nI (cN (fun i => jnC c (nI i) && decide (miI c (nI i) = 1)) 32) := sumTo_cN _ _ 32 (fun i _ => by
    show (if jnC c (nI i) = true then miI c (nI i) else 0) = _
    have : miI c (nI i) = 0 ∨ miI c (nI i) = 1 := by
      unfold miI
      split
      · split
        · exact Or.inl rfl
        · exact Or.inr rfl
      · exact Or.inl rfl
    by_cases hj : jnC c (nI i) = true
    · rcases this with q | q <;> simp [hj, q]
    · simp [hj])
  have h3 := cN_le (fun i => jnC c (nI i) && decide (miI c (nI i) = 1)) 32
  rw [h2, pk_mul] at h1
  exact ⟨_, Nat.mul_le_mul_right b h3, h1⟩
/-- time goes on -/
theorem Kp_time {lo' : Int32 → Nat} (o : Kp lo T c) (t : Nat) (h : ∀ x, bM x = false → vC c x 0 = 1 → ∀ k, lo x ≤ k → k ≤ 20 → vC c x 3 = 1 → vC c x 4 = figC c 8 + nI k → lo' x + t ≤ k) : Kp lo' T (afC c 8 (nI t)) := by
  obtain ⟨iv, g2, g3, g4⟩ := o
  have hf : ∀ k, figC (afC c 8 (nI t)) k = if k = 8 then figC c 8 + nI t else figC c k := fun k => figC_af c _ bF_8 k
  refine ⟨Iv_cg iv (fun y u => pC_af c _ bF_8 y u) (fun y => vC_af c _ bF_8 y 0) (fun y => vC_af c _ bF_8 y 5) (fun y => vC_af c _ bF_8 y 6) (fun y hy hz w => by rw [vC_af c _ bF_8]; exact (iv.2.1 y hy hz).1 w) (fun x hx h0 => ?_) (by rw [hf, if_neg (by decide)]) (by rw [hf, if_neg (by decide)]; exact iv.2.2.2.2.2.2.2), Bd_af g2 _ bF_8 (by decide), Sn_cg g3 (by rw [hf, if_neg (by decide)]) (fun y _ hz => by
    rw [vC_af c _ bF_8] at hz
    exact ⟨hz, vC_af c _ bF_8 y 7, vC_af c _ bF_8 y 8, vC_af c _ bF_8 y 9⟩), fun i i1 i2 => by
    rw [vC_af c _ bF_8]
    exact g4 i i1 i2⟩
  rw [vC_af c _ bF_8, vC_af c _ bF_8, hf, if_pos rfl]
  rcases iv.2.2.2.1 x hx h0 with q | ⟨q3, k, k1, k2, k3⟩
  · exact Or.inl q
  · have := h x hx h0 k k1 k2 q3 k3
    refine Or.inr ⟨q3, k - t, by omega, by omega, ?_⟩
    rw [k3, Int32.add_assoc, nI_add, show t + (k - t) = k by omega]
theorem nI_cancel {a : Int32} {i j : Nat} (hi : i < 2 ^ 31) (hj : j < 2 ^ 31) (h : a + nI i = a + nI j) : i = j := by
  have := congrArg (· - a) h
  rw [Int32.add_comm, Int32.add_sub_cancel, Int32.add_comm, Int32.add_sub_cancel] at this
  exact (nI_eq hi hj).mp this
theorem tk_kp : ∀ (n l ms : Nat) (c : Ce) (T T0 : Nat), l ≤ n → l ≤ 200 → Kp (fun _ => 1) T c → figC c 8 = nI T0 → (∃ k, k ≤ ms + 32 * l ∧ (tkGo n (nI l) (nI ms) c).1 = nI k) ∧ Kp (fun _ => 1) (T + l) (tkGo n (nI l) (nI ms) c).2 ∧ figC (tkGo n (nI l) (nI ms) c).2 8 = nI (T0 + l) ∧ figC (tkGo n (nI l) (nI ms) c).2 9 = figC c 9 := by
  intro n
  induction n with
  | zero =>
    intro l ms c T T0 hl _ o h8
    have : l = 0 := by omega
    subst this
    exact ⟨⟨ms, by omega, rfl⟩, o, h8, rfl⟩
  | succ n ih =>
    intro l ms c T T0 hl hl2 o h8
    rw [tkGo]
    by_cases h0 : l = 0
    · subst h0
      rw [if_pos (by decide)]
      exact ⟨⟨ms, by omega, rfl⟩, o, h8, rfl⟩
    · rw [if_neg (nI_nle (by omega) (by omega))]
      have o1 : Kp (loN 0) T (afC c 8 (nI 1)) := Kp_time o 1 (fun x _ _ k k1 _ _ _ => by
        have k1' : 1 ≤ k := k1
        show (if x.toNatClampNeg < 0 then 1 else 0) + 1 ≤ k
        rw [if_neg (by omega)]
        omega)
      obtain ⟨o2, pw⟩ := nf_kp o1
      have o3 : Kp (fun _ => 1) T (nfC (afC c 8 1)) := Kp_lo o2 (fun x hx _ => Or.inl (by
        obtain ⟨i, hi, rfl⟩ := bM_of hx
        unfold loN
        rw [nI_clamp (by omega), if_pos hi]
        exact Nat.le_refl _))
      have f8 : figC (nfC (afC c 8 1)) 8 = nI (T0 + 1) := by
        have := pw 8 (by decide) (by decide) (by decide) (by decide)
        rw [figC_af _ _ bF_8, if_pos rfl, h8, nI_add] at this
        exact this
      have f9 : figC (nfC (afC c 8 1)) 9 = figC c 9 := by
        have := pw 9 (by decide) (by decide) (by decide) (by decide)
        rw [figC_af _ _ bF_8, if_neg (by decide)] at this
        exact this
      generalize nfC (afC c 8 1) = c1 at o3 f8 f9
      obtain ⟨al, a1, a2, a3, a4⟩ := al_ok o3.1 (l := l) (by omega) hl2
      obtain ⟨k, k1, k2⟩ := sb_1n c1 al
      rw [a3, pk_sub a2, k2, nI_add, nIs1 al a1]
      have o4 := Kp_sb o3 al
      have o5 : Kp (fun _ => 1) (T + al) (afC (sbC c1 (nI al)).2 8 (nI (al - 1))) := Kp_time o4 (al - 1) (fun x hx x0 k k1 k2 x3 x4 => by
        rw [sb_ne c1 _ x (dvC_0 c1)] at x0
        rw [sb_ne c1 _ x (dvC_3 c1)] at x3
        rw [sb_ne c1 _ x (dvC_4 c1), sb_fz c1 _ (by decide) (by decide) (by decide) (by decide)] at x4
        have := a4 x hx x0 k k1 k2 x3 x4
        omega)
      have g8 : figC (afC (sbC c1 (nI al)).2 8 (nI (al - 1))) 8 = nI (T0 + al) := by
        rw [figC_af _ _ bF_8, if_pos rfl, sb_fz c1 _ (by decide) (by decide) (by decide) (by decide), f8, nI_add, show T0 + 1 + (al - 1) = T0 + al by omega]
      have g9 : figC (afC (sbC c1 (nI al)).2 8 (nI (al - 1))) 9 = figC c 9 := by
        rw [figC_af _ _ bF_8, if_neg (by decide), sb_fz c1 _ (by decide) (by decide) (by decide) (by decide), f9]
      obtain ⟨⟨k', q1, q2⟩, q3, q4, q5⟩ := ih (l - al) (ms + k) _ (T + al) (T0 + al) (by omega) (by omega) o5 g8
      refine ⟨⟨k', by omega, q2⟩, ?_, ?_, q5.trans g9⟩
      · rw [show T + l = T + al + (l - al) by omega]
        exact q3
      · rw [show T0 + l = T0 + al + (l - al) by omega]
        exact q4
/-- what holds between the law's calls -/
def Jv (F T : Nat) (c : Ce) : Prop := Kp (fun _ => 1) T c ∧ figC c 8 = nI T ∧ figC c 9 = nI F
theorem Jv_Pv {F : Nat} (k : Kp (fun _ => 1) T c') (p : Pv c c') (h8 : figC c 8 = nI T) (h9 : figC c 9 = nI F) : Jv F T c' := ⟨k, (p.2 8 (by decide) (by decide)).trans h8, (p.2 9 (by decide) (by decide)).trans h9⟩
theorem j_join {F : Nat} (h : Jv F T c) {i b : Nat} (p : Int32) (hi : i < 24) (hb : b ≤ 8) (h0 : ¬ vC c (nI i) 0 = 1) : Jv F T (joC c (nI i) (nI b) p) := by
  obtain ⟨⟨g1, g2, g3, g4⟩, h8, h9⟩ := h
  have hx := bM_n (show i < 32 by omega)
  have h0 := unj g1 hx h0
  obtain ⟨q1, q2, q3, q4, q7, q8, q9, -⟩ := tiC_iv g1 (nI b) p hx h0
  have k1 : Kp (fun _ => 1) T (tiC c (nI i) (nI b) p) := ⟨q1, tiC_bd g1 g2 p hb hx h0, ⟨by rw [figC_ti, if_neg (by decide)]; exact g3.1, fun y hy hz => by
    by_cases hyx : y = nI i
    · rw [hyx]
      exact ⟨0, 0, 0, q7, q8, q9, by omega, by omega, by omega⟩
    · rw [q2 y hyx] at hz
      simp only [q2 y hyx]
      exact g3.2 y hy hz⟩, fun j j1 j2 => by
    rw [q2 _ (fun q => by
      have := (nI_eq (by omega) (by omega)).mp q
      omega)]
    exact g4 j j1 j2⟩
  obtain ⟨r1, r2⟩ := Kp_ao k1
  exact Jv_Pv r1 r2 (by rw [figC_ti, if_neg (by decide)]; exact h8) (by rw [figC_ti, if_neg (by decide)]; exact h9)
theorem j_leave {F : Nat} (h : Jv F T c) {x : Int32} (hx : bM x = false) (h0 : vC c x 0 = 1) : Jv F T (leC c x) := by
  obtain ⟨k, h8, h9⟩ := h
  obtain ⟨-, -, t3, -⟩ := toC_iv k.1 hx h0
  obtain ⟨r1, r2⟩ := Kp_ao (Kp_to k hx h0)
  exact Jv_Pv r1 r2 ((t3 8 (by decide) (by decide) (by decide)).trans h8) ((t3 9 (by decide) (by decide) (by decide)).trans h9)
theorem j_repair {F : Nat} (h : Jv F T c) : Jv F T (aoC c) := by
  obtain ⟨k, h8, h9⟩ := h
  obtain ⟨r1, r2⟩ := Kp_ao k
  exact Jv_Pv r1 r2 h8 h9
theorem j_fail {F : Nat} (h : Jv F T c) {x : Int32} (hx : bM x = false) (h0 : vC c x 0 = 1) : Jv F T (faC c x) := by
  obtain ⟨⟨iv, g2, g3, g4⟩, h8, h9⟩ := h
  have hv : ∀ y u, vC (faC c x) y u = if y = x ∧ u = 4 then figC c 8 + figC c 10 else if y = x ∧ u = 3 then 1 else vC c y u := fun y u => by
    unfold faC
    rw [vC_sv _ _ hx bV_4, vC_sv _ _ hx bV_3]
  have hf : ∀ k, figC (faC c x) k = figC c k := fun k => (figC_sv _ _ bV_4 k).trans (figC_sv c _ bV_3 k)
  have hp : ∀ y t, pC (faC c x) y t = pC c y t := fun y t => (pC_sv _ _ bV_4 y t).trans (pC_sv c _ bV_3 y t)
  have hn : ∀ y u, ¬ u = 3 → ¬ u = 4 → vC (faC c x) y u = vC c y u := fun y u h3 h4 => by
    rw [hv, if_neg (fun q => h4 q.2), if_neg (fun q => h3 q.2)]
  refine ⟨⟨Iv_cg iv hp (fun y => hn y 0 (by decide) (by decide)) (fun y => hn y 5 (by decide) (by decide)) (fun y => hn y 6 (by decide) (by decide)) (fun y hy hz w => ?_) (fun y hy hy0 => ?_) (hf 0) (by rw [hf]; exact iv.2.2.2.2.2.2.2), Bd_cg g2 hp (fun y => hn y 0 (by decide) (by decide)) (fun y => hn y 1 (by decide) (by decide)) (hf 9), Sn_cg g3 (hf 1) (fun y _ hz => ?_), fun i i1 i2 => ?_⟩, (hf 8).trans h8, (hf 9).trans h9⟩
  · have hyx : ¬ y = x := by
      rintro rfl
      rw [h0] at hz
      cases hz
    rw [hv, if_neg (fun q => hyx q.1), if_neg (fun q => hyx q.1)]
    exact (iv.2.1 y hy hz).1 w
  · by_cases hyx : y = x
    · obtain ⟨k, k1, k2, k3⟩ := iv.2.2.2.2.2.2.2
      refine Or.inr ⟨by rw [hv, if_neg (fun q => absurd q.2 (by decide)), if_pos ⟨hyx, rfl⟩], k, k1, k2, ?_⟩
      rw [hv, if_pos ⟨hyx, rfl⟩, hf, k3]
    · rw [hv, hv, hf, if_neg (fun q => hyx q.1), if_neg (fun q => hyx q.1), if_neg (fun q => hyx q.1), if_neg (fun q => hyx q.1)]
      exact iv.2.2.2.1 y hy hy0
  · rw [hn y 0 (by decide) (by decide)] at hz
    exact ⟨hz, hn y 7 (by decide) (by decide), hn y 8 (by decide) (by decide), hn y 9 (by decide) (by decide)⟩
  · rw [hn _ 0 (by decide) (by decide)]
    exact g4 i i1 i2
theorem j_setBound {F : Nat} (h : Jv F T c) {x : Int32} {b : Nat} (hb : b ≤ 8) (hx : bM x = false) (h0 : vC c x 0 = 1) : Jv F T (sbdC c x (nI b)) := by
  obtain ⟨⟨iv, g2, g3, g4⟩, h8, h9⟩ := h
  obtain ⟨q1, q2, q3⟩ := sb_iv iv g2 hb hx h0
  have hv1 : ∀ y u, ¬ u = 1 → vC (svC c x 1 (nI b)) y u = vC c y u := fun y u hu => vC_sv_ne c _ bV_1 y hu
  have hf1 : ∀ k, figC (svC c x 1 (nI b)) k = figC c k := fun k => figC_sv c _ bV_1 k
  have s1 : Sn T (svC c x 1 (nI b)) := Sn_cg g3 (hf1 1) (fun y _ hz => by
    rw [hv1 y 0 (by decide)] at hz
    exact ⟨hz, hv1 y 7 (by decide), hv1 y 8 (by decide), hv1 y 9 (by decide)⟩)
  have i1 : Hi (svC c x 1 (nI b)) := fun i i1 i2 => by
    rw [hv1 _ 0 (by decide)]
    exact g4 i i1 i2
  obtain ⟨r1, r2⟩ := Kp_ao (T := T) ⟨q1, q2, Sn_Pv s1 q3, Hi_Pv i1 q3⟩
  exact Jv_Pv r1 (Pv_t q3 r2) ((hf1 8).trans h8) ((hf1 9).trans h9)
theorem j_setSource {F F' : Nat} (h : Jv F T c) (h1 : 1 ≤ F') (h2 : F' ≤ 8) : Jv F' T (ssC c (nI F')) := by
  obtain ⟨⟨iv, g2, g3, g4⟩, h8, h9⟩ := h
  obtain ⟨q1, q2, q3⟩ := ss_iv iv g2 h1 h2
  have hv1 : ∀ y u, vC (sfC c 9 (nI F')) y u = vC c y u := fun y u => vC_sf c _ bF_9 y u
  have s1 : Sn T (sfC c 9 (nI F')) := Sn_cg g3 (by rw [figC_sf c _ bF_9, if_neg (by decide)]) (fun y _ hz => by
    rw [hv1] at hz
    exact ⟨hz, hv1 y 7, hv1 y 8, hv1 y 9⟩)
  have i1 : Hi (sfC c 9 (nI F')) := fun i i1 i2 => by
    rw [hv1]
    exact g4 i i1 i2
  obtain ⟨r1, r2⟩ := Kp_ao (T := T) ⟨q1, q2, Sn_Pv s1 q3, Hi_Pv i1 q3⟩
  exact Jv_Pv r1 (Pv_t q3 r2) (by rw [figC_sf c _ bF_9, if_neg (by decide)]; exact h8) (by rw [figC_sf c _ bF_9, if_pos rfl])
theorem j_setDelay {F d : Nat} (h : Jv F T c) (h1 : 1 ≤ d) (h2 : d ≤ 20) : Jv F T (sfC c 10 (nI d)) := by
  obtain ⟨⟨iv, g2, g3, g4⟩, h8, h9⟩ := h
  have hv1 : ∀ y u, vC (sfC c 10 (nI d)) y u = vC c y u := fun y u => vC_sf c _ bF_10 y u
  have hf1 : ∀ k, ¬ k = 10 → figC (sfC c 10 (nI d)) k = figC c k := fun k hk => by rw [figC_sf c _ bF_10, if_neg hk]
  exact ⟨⟨Iv_sf iv _ bF_10 (by decide) (by decide) (fun _ => ⟨d, h1, h2, rfl⟩), Bd_cg g2 (fun y t => pC_sf c _ bF_10 y t) (fun y => hv1 y 0) (fun y => hv1 y 1) (hf1 9 (by decide)), Sn_cg g3 (hf1 1 (by decide)) (fun y _ hz => by
    rw [hv1] at hz
    exact ⟨hz, hv1 y 7, hv1 y 8, hv1 y 9⟩), fun i i1 i2 => by
    rw [hv1]
    exact g4 i i1 i2⟩, (hf1 8 (by decide)).trans h8, (hf1 9 (by decide)).trans h9⟩
theorem j_rejoin {F : Nat} (h : Jv F T c) {x s : Int32} (hx : bM x = false) (hs : bS s = false) (h0 : vC c x 0 = 1) : Jv F T (rjC c x s) ∧ (pC (rjC c x s) x s = -1 → wrC (rjC c x s) s = 0 ∧ rmC (rjC c x s) 100 s = false) := by
  obtain ⟨⟨iv, g2, g3, g4⟩, h8, h9⟩ := h
  have i1 := Iv_rm iv hx h0 hs
  have b1 := Bd_rm g2 hx hs
  have pv := Pv_mv c (-1) hx hs
  have p1 : pC (mvC c x s (-1)) x s = -1 := by rw [pC_mv c (-1) hx hs, if_pos ⟨rfl, rfl⟩]
  have v1 : vC (mvC c x s (-1)) x 0 = 1 := by rw [vC_mv_ne c (-1) hx hs x (by decide) (by decide)]; exact h0
  obtain ⟨q1, q2, q3, q4⟩ := atC_iv hs i1 b1 hx v1 p1
  refine ⟨Jv_Pv ⟨q1, q2, Sn_Pv g3 (Pv_t pv q3), Hi_Pv g4 (Pv_t pv q3)⟩ (Pv_t pv q3) h8 h9, fun hp => ?_⟩
  have hp' : pC (atC (mvC c x s (-1)) x s) x s = -1 := hp
  rcases q4 with ⟨j, hj⟩ | ⟨e1, e2⟩
  · exfalso
    cases j with
    | zero => exact bM_ne100 hx hj
    | succ j =>
      have := hj.2
      rw [hp'] at this
      cases j with
      | zero =>
        have h9 : (-1 : Int32) = 100 := this
        exact absurd h9 (by decide)
      | succ j => exact absurd this.1 (by decide)
  · have e1' : rjC c x s = mvC c x s (-1) := e1
    rw [e1']
    refine ⟨?_, ?_⟩
    · have := smC_no e2
      refine (sumTo_cN (fun _ => false) _ 32 (fun i hi => ?_)).trans (by rw [cN_zero (fun _ _ => rfl)]; rfl)
      rw [this i hi]
      rfl
    · by_cases hr : rmC (mvC c x s (-1)) 100 s = true
      · exfalso
        have e3 : atC (mvC c x s (-1)) x s = mvC (mvC c x s (-1)) x s 100 := by
          unfold atC
          rw [atGo, if_pos hr]
        rw [e3, pC_mv _ 100 hx hs, if_pos ⟨rfl, rfl⟩] at hp'
        exact absurd hp' (by decide)
      · simpa using hr
theorem j_tick {F l : Nat} (h : Jv F T c) (hl : l ≤ 200) : Jv F (T + l) (tkC c (nI l)).2 ∧ ∃ k, k ≤ 32 * l ∧ (tkC c (nI l)).1 = nI k := by
  obtain ⟨k, h8, h9⟩ := h
  obtain ⟨⟨k', q1, q2⟩, q3, q4, q5⟩ := tk_kp 200 l 0 c T T hl hl k h8
  exact ⟨⟨q3, q4, q5.trans h9⟩, k', by omega, q2⟩
end OP

/-! THE TWO SIDES: a member goes, a member comes -/
section GO
variable {lo : Int32 → Nat} {d : Int32} {c : Ce} {m : Re}
theorem bW_of8 {u : Int32} (hu : bW u = false) : (∃ j : Nat, j < 8 ∧ u = nI j) ∨ ∃ i : Nat, i < 4 ∧ u = 8 + nI i := by
  obtain ⟨j, hj, rfl⟩ := bW_of hu
  by_cases h : j < 8
  · exact Or.inl ⟨j, h, rfl⟩
  · refine Or.inr ⟨j - 8, by omega, ?_⟩
    rw [show (8 : Int32) = nI 8 from rfl, nI_add]
    congr 1
    omega
theorem gcF_eq {x : Int32} {s : Nat} (hs : s < 4) : ∀ n, n ≤ 32 → ∀ m, (∀ y u, bM y = false → bW u = false → oR (fold2 (gcF x s) m n) y u = if u = 8 + nI s ∧ (∃ i, i < n ∧ y = nI i) ∧ icR m y x (nI s) = true then -1 else oR m y u) ∧ (∀ j, j < 11 → fold2 (gcF x s) m n j = m j) := by
  intro n
  induction n with
  | zero =>
    intro _ m
    rw [fold2_0]
    exact ⟨fun y u _ _ => by rw [if_neg]; rintro ⟨-, ⟨i, hi, -⟩, -⟩; omega, fun _ _ => rfl⟩
  | succ n ih =>
    intro hn m
    obtain ⟨h1, h2⟩ := ih (by omega) m
    have hS := bS_n hs
    have hM := bM_n (show n < 32 by omega)
    have e : icR (fold2 (gcF x s) m n) (nI n) x (nI s) = icR m (nI n) x (nI s) := by
      have hno : ¬ ∃ i, i < n ∧ nI n = nI i := by
        rintro ⟨i, hi, q⟩
        have := (nI_eq (by omega) (by omega)).mp q
        omega
      unfold icR jR
      rw [h1 _ _ hM bW_0, h1 _ _ hM (bW_8 hS), if_neg (fun q => hno q.2.1), if_neg (fun q => hno q.2.1)]
    rw [fold2_s]
    unfold gcF at h1 h2 e ⊢
    by_cases hc : icR m (nI n) x (nI s) = true
    · rw [if_pos (e.trans hc)]
      refine ⟨fun y u hy hu => ?_, fun j hj => by rw [up_lo _ _ hM (bW_8 hS) hj]; exact h2 j hj⟩
      rw [oR_up _ _ hM (bW_8 hS) hy hu, h1 y u hy hu]
      by_cases q : y = nI n ∧ u = 8 + nI s
      · rw [if_pos q, if_pos ⟨q.2, ⟨n, by omega, q.1⟩, by rw [q.1]; exact hc⟩]
      · rw [if_neg q]
        by_cases q2 : u = 8 + nI s ∧ (∃ i, i < n ∧ y = nI i) ∧ icR m y x (nI s) = true
        · obtain ⟨a1, ⟨i, a2, a3⟩, a4⟩ := q2
          rw [if_pos ⟨a1, ⟨i, a2, a3⟩, a4⟩, if_pos ⟨a1, ⟨i, by omega, a3⟩, a4⟩]
        · rw [if_neg q2, if_neg]
          rintro ⟨a1, ⟨i, a2, a3⟩, a4⟩
          by_cases hin : i = n
          · subst hin
            exact q ⟨a3, a1⟩
          · exact q2 ⟨a1, ⟨i, by omega, a3⟩, a4⟩
    · rw [if_neg (fun q => hc (e.symm.trans q))]
      refine ⟨fun y u hy hu => ?_, h2⟩
      rw [h1 y u hy hu]
      by_cases q2 : u = 8 + nI s ∧ (∃ i, i < n ∧ y = nI i) ∧ icR m y x (nI s) = true
      · obtain ⟨a1, ⟨i, a2, a3⟩, a4⟩ := q2
        rw [if_pos ⟨a1, ⟨i, a2, a3⟩, a4⟩, if_pos ⟨a1, ⟨i, by omega, a3⟩, a4⟩]
      · rw [if_neg q2, if_neg]
        rintro ⟨a1, ⟨i, a2, a3⟩, a4⟩
        by_cases hin : i = n
        · subst hin
          rw [a3] at a4
          exact hc a4
        · exact q2 ⟨a1, ⟨i, by omega, a3⟩, a4⟩
theorem gcR_eq (x : Int32) {s : Nat} (hs : s < 4) (m : Re) : (∀ y u, bM y = false → bW u = false → oR (gcR x s m) y u = if u = 8 + nI s ∧ icR m y x (nI s) = true then -1 else oR m y u) ∧ (∀ j, j < 11 → gcR x s m j = m j) := by
  obtain ⟨h1, h2⟩ := gcF_eq (x := x) hs 32 (Nat.le_refl _) m
  refine ⟨fun y u hy hu => ?_, h2⟩
  show oR (fold2 (gcF x s) m 32) y u = _
  rw [h1 y u hy hu]
  obtain ⟨i, hi, hyi⟩ := bM_of hy
  by_cases q : u = 8 + nI s ∧ icR m y x (nI s) = true
  · rw [if_pos q, if_pos ⟨q.1, ⟨i, hi, hyi⟩, q.2⟩]
  · rw [if_neg q, if_neg (fun q2 => q ⟨q2.1, q2.2.2⟩)]
theorem gcA_eq (x : Int32) (m : Re) : ∀ j, j ≤ 4 → (∀ y i, bM y = false → i < 8 → oR (fold2 (gcR x) m j) y (nI i) = oR m y (nI i)) ∧ (∀ y i, bM y = false → i < 4 → oR (fold2 (gcR x) m j) y (8 + nI i) = if i < j ∧ icR m y x (nI i) = true then -1 else oR m y (8 + nI i)) ∧ (∀ i, i < 11 → fold2 (gcR x) m j i = m i) := by
  intro j
  induction j with
  | zero =>
    intro _
    rw [fold2_0]
    exact ⟨fun _ _ _ _ => rfl, fun y i _ _ => by rw [if_neg (fun q => by omega)], fun _ _ => rfl⟩
  | succ j ih =>
    intro hj
    obtain ⟨h1, h2, h3⟩ := ih (by omega)
    rw [fold2_s]
    obtain ⟨g1, g2⟩ := gcR_eq x (show j < 4 by omega) (fold2 (gcR x) m j)
    have hS := bS_n (show j < 4 by omega)
    refine ⟨fun y i hy hi => ?_, fun y i hy hi => ?_, fun i hi => (g2 i hi).trans (h3 i hi)⟩
    · rw [g1 y (nI i) hy (bW_n (by omega)), if_neg (fun q => n8 hS hi q.1)]
      exact h1 y i hy hi
    · have hSi := bS_n hi
      rw [g1 y _ hy (bW_8 hSi), h2 y i hy hi]
      have e : icR (fold2 (gcR x) m j) y x (nI j) = icR m y x (nI j) := by
        unfold icR jR
        rw [show (0 : Int32) = nI 0 from rfl, h1 y 0 hy (by omega), h2 y j hy (by omega), if_neg (fun q => by omega)]
      rw [e]
      by_cases hij : i = j
      · subst hij
        by_cases hc : icR m y x (nI i) = true
        · rw [if_pos ⟨rfl, hc⟩, if_pos ⟨by omega, hc⟩]
        · rw [if_neg (fun q => hc q.2), if_neg (fun q => hc q.2), if_neg (fun q => hc q.2)]
      · have hne : ¬ (8 + nI i = 8 + nI j) := fun q => hij ((nI_eq (by omega) (by omega)).mp ((e8 hS hSi).mp q))
        rw [if_neg (fun q => hne q.1)]
        by_cases hc : i < j ∧ icR m y x (nI i) = true
        · rw [if_pos hc, if_pos ⟨by omega, hc.2⟩]
        · rw [if_neg hc, if_neg (fun q => hc ⟨by omega, q.2⟩)]
theorem zeR_eq {x : Int32} (hx : bM x = false) (m : Re) : (∀ y u, bM y = false → bW u = false → oR (zeR m x) y u = if y = x then 0 else oR m y u) ∧ (∀ j, j < 11 → zeR m x j = m j) := by
  have key : ∀ n, n ≤ 12 → (∀ y u, bM y = false → bW u = false → oR (fold2 (zeF x) m n) y u = if y = x ∧ (∃ i, i < n ∧ u = nI i) then 0 else oR m y u) ∧ (∀ j, j < 11 → fold2 (zeF x) m n j = m j) := by
    intro n
    induction n with
    | zero =>
      intro _
      rw [fold2_0]
      exact ⟨fun y u _ _ => by rw [if_neg]; rintro ⟨-, i, hi, -⟩; omega, fun _ _ => rfl⟩
    | succ n ih =>
      intro hn
      obtain ⟨h1, h2⟩ := ih (by omega)
      rw [fold2_s]
      have hW := bW_n (show n < 12 by omega)
      unfold zeF at h1 h2 ⊢
      refine ⟨fun y u hy hu => ?_, fun j hj => by rw [up_lo _ _ hx hW hj]; exact h2 j hj⟩
      rw [oR_up _ _ hx hW hy hu, h1 y u hy hu]
      by_cases q : y = x ∧ u = nI n
      · rw [if_pos q, if_pos ⟨q.1, n, by omega, q.2⟩]
      · rw [if_neg q]
        by_cases q2 : y = x ∧ ∃ i, i < n ∧ u = nI i
        · obtain ⟨a1, i, a2, a3⟩ := q2
          rw [if_pos ⟨a1, i, a2, a3⟩, if_pos ⟨a1, i, by omega, a3⟩]
        · rw [if_neg q2, if_neg]
          rintro ⟨a1, i, a2, a3⟩
          by_cases hin : i = n
          · subst hin
            exact q ⟨a1, a3⟩
          · exact q2 ⟨a1, i, by omega, a3⟩
  obtain ⟨h1, h2⟩ := key 12 (Nat.le_refl _)
  refine ⟨fun y u hy hu => ?_, h2⟩
  show oR (fold2 (zeF x) m 12) y u = _
  rw [h1 y u hy hu]
  obtain ⟨j, hj, huj⟩ := bW_of hu
  by_cases q : y = x
  · rw [if_pos ⟨q, j, hj, huj⟩, if_pos q]
  · rw [if_neg (fun q2 => q q2.1), if_neg q]
theorem RlF_eq {m' : Re} {c' : Ce} (r : RlF d c m) (hm : ∀ j, j < 11 → m' j = m j) (hf : ∀ k, ¬ k = 0 → figC c' k = figC c k) : RlF d c' m' := by
  obtain ⟨f0, f1, f2, f4, f5, f6, f7, f8, f9, f10⟩ := r
  unfold RlF
  rw [hm 0 (by omega), hm 1 (by omega), hm 2 (by omega), hm 4 (by omega), hm 5 (by omega), hm 6 (by omega), hm 7 (by omega), hm 8 (by omega), hm 9 (by omega), hm 10 (by omega), hf 9 (by decide), hf 10 (by decide), hf 8 (by decide), hf 1 (by decide), hf 2 (by decide), hf 3 (by decide), hf 4 (by decide), hf 5 (by decide), hf 6 (by decide), hf 7 (by decide)]
  exact ⟨f0, f1, f2, f4, f5, f6, f7, f8, f9, f10⟩
theorem figC_mv' (c : Ce) (x s p k : Int32) : figC (mvC c x s p) k = figC c k := by
  by_cases hx : bM x = false
  · by_cases hs : bS s = false
    · exact figC_mv c p hx hs k
    · have hs' := bSt hs
      simp only [bS, Bool.or_eq_true, decide_eq_true_eq] at hs'
      unfold mvC
      rw [if_pos (Or.inr (Or.inr hs'))]
  · have hx' := bMt hx
    simp only [bM, Bool.or_eq_true, decide_eq_true_eq] at hx'
    unfold mvC
    rw [if_pos (hx'.elim Or.inl (fun q => Or.inr (Or.inl ((m32 x).mpr q))))]
theorem fig_cutN (a s k : Int32) : ∀ n c, figC (cutN a s n c) k = figC c k := by
  intro n
  induction n with
  | zero => exact fun _ => rfl
  | succ n ih => exact fun c => (ih _).trans (figC_mv' c _ _ _ k)
theorem fig_toF (x k : Int32) : ∀ j c, figC (fold2 (toF x) c j) k = figC c k := by
  intro j
  induction j with
  | zero => exact fun c => by rw [fold2_0]
  | succ j ih =>
    intro c
    rw [fold2_s]
    exact (figC_mv' _ _ _ _ k).trans ((fig_cutN _ _ k _ _).trans (ih c))
theorem bF_0 : bF 0 = false := by decide
theorem toC_ok (h : Ok lo d c m) {x : Int32} (hx : bM x = false) (h0 : vC c x 0 = 1) : Ok lo d (toC c x) (goR m x) ∧ (∀ y u, ¬ u = 5 → ¬ u = 6 → vC (toC c x) y u = if y = x then 0 else vC c y u) ∧ (∀ k, ¬ k = 0 → ¬ k = 6 → ¬ k = 7 → figC (toC c x) k = figC c k) := by
  obtain ⟨⟨m1, o1⟩, p1, q1⟩ := toF_ok hx 4 (Nat.le_refl _) c m h h0
  obtain ⟨t1, t2, t3⟩ := toG_eq hx 10 (Nat.le_refl _) (fold2 (toF x) c 4)
  have ec : toC c x = afC (fold2 (toG x) (fold2 (toF x) c 4) 10) 0 (-1) := rfl
  generalize hc1 : fold2 (toF x) c 4 = c1 at o1 p1 q1 t1 t2 t3 ec
  generalize fold2 (toG x) c1 10 = c2 at t1 t2 t3 ec
  have hv : ∀ y u, vC (toC c x) y u = if y = x then 0 else vC c1 y u := fun y u => by
    rw [ec, vC_af _ _ bF_0, t1]
    by_cases hy : y = x
    · rw [if_pos hy]
      by_cases hu : bV u = false
      · obtain ⟨i, hi, hui⟩ := bV_of hu
        rw [if_pos ⟨hy, i, hi, hui⟩]
      · rw [if_neg, vC_out (Or.inr (bVt hu))]
        rintro ⟨-, i, hi, rfl⟩
        refine hu ?_
        simp only [bV, Bool.or_eq_false_iff, decide_eq_false_iff_not, Decidable.not_not]
        refine ⟨nI_pos (by omega), ?_⟩
        rw [show (10 : Int32) = nI 10 from rfl, nI_ltI (by omega) (by omega)]
        exact hi
    · rw [if_neg hy, if_neg (fun q => hy q.1)]
  have hp : ∀ y t, pC (toC c x) y t = pC c1 y t := fun y t => by rw [ec, pC_af _ _ bF_0]; exact t2 y t
  have hf : ∀ k, figC (toC c x) k = if k = 0 then figC c1 0 + -1 else figC c1 k := fun k => by
    rw [ec, figC_af _ _ bF_0, t3, t3]
  have hpx : ∀ t, pC c1 x t = -1 := fun t => by
    by_cases ht : bS t = false
    · obtain ⟨i, hi, rfl⟩ := bS_of ht
      rw [q1 x i hi, if_pos ⟨hi, Or.inl rfl⟩]
    · exact pC_out (Or.inr (bSt ht))
  have hnx : ∀ y t, ¬ pC c1 y t = x := fun y t q => by
    by_cases ht : bS t = false
    · obtain ⟨i, hi, rfl⟩ := bS_of ht
      rw [q1 y i hi] at q
      by_cases hc : i < 4 ∧ (y = x ∨ pC c y (nI i) = x)
      · rw [if_pos hc] at q
        exact bMm1 hx q.symm
      · rw [if_neg hc] at q
        exact hc ⟨hi, Or.inr q⟩
    · rw [pC_out (Or.inr (bSt ht))] at q
      exact bMm1 hx q.symm
  have hcx : ∀ t, cnt c1 x t = 0 := fun t => cN_zero (fun i _ => by simpa using hnx (nI i) t)
  have htx : tot c1 x = 0 := by
    unfold tot
    rw [hcx, hcx, hcx, hcx]
  obtain ⟨i1, i2, i3, i4, i5, i6, i7, i8⟩ := o1.1
  refine ⟨⟨⟨fun y hy => ?_, fun y hy hz => ?_, fun y t => ?_, fun y hy hz => ?_, fun y hy => ?_, fun s hs y hy => Te_cg hp (i6 s hs y hy), ?_, ?_⟩, ?_, ?_⟩, fun y u h5 h6 => ?_, fun k hk0 hk6 hk7 => ?_⟩
  · rw [hv]
    split
    · exact Or.inl rfl
    · exact i1 y hy
  · rw [hv] at hz
    by_cases hyx : y = x
    · refine ⟨fun w => by rw [hv, if_pos hyx], fun t => by rw [hp, hyx]; exact hpx t⟩
    · rw [if_neg hyx] at hz
      obtain ⟨j1, j2⟩ := i2 y hy hz
      exact ⟨fun w => by rw [hv, if_neg hyx]; exact j1 w, fun t => by rw [hp]; exact j2 t⟩
  · rw [hp, hv, if_neg (hnx y t)]
    exact i3 y t
  · rw [hv] at hz
    by_cases hyx : y = x
    · rw [if_pos hyx] at hz
      cases hz
    · rw [if_neg hyx] at hz
      rw [hv, hv, if_neg hyx, if_neg hyx, hf, if_neg (by decide)]
      exact i4 y hy hz
  · unfold Kc
    simp only [tot_cg hp, cnt_cg hp, hv]
    by_cases hyx : y = x
    · simp only [if_pos hyx]
      rw [hyx, htx]
      exact ⟨rfl, fun _ q => (by cases q), fun s _ q => absurd (hcx s) q⟩
    · simp only [if_neg hyx]
      exact i5 y hy
  · rw [hf, if_pos rfl, i7]
    obtain ⟨j, hj, rfl⟩ := bM_of hx
    have h01 : vC c1 (nI j) 0 = 1 := by rw [p1.1 _ 0 (by decide) (by decide)]; exact h0
    have hh := cN_upd (f := fun i => decide (vC c1 (nI i) 0 = 1)) (g := fun i => decide (vC (toC c (nI j)) (nI i) 0 = 1)) hj (fun i hi hne => by
      rw [hv, if_neg (fun q => hne ((nI_eq (by omega) (by omega)).mp q))])
    have e1 : vC (toC c (nI j)) (nI j) 0 = 0 := by rw [hv, if_pos rfl]
    simp only [decide_eq_true_eq, e1, h01, if_true] at hh
    rw [if_neg (by decide)] at hh
    have := cN_pos (f := fun i => decide (vC c1 (nI i) 0 = 1)) hj (by simp [h01])
    rw [nIp _ this]
    congr 1
    omega
  · rw [hf, if_neg (by decide)]
    exact i8
  · obtain ⟨r0, r1⟩ := h.2.1
    obtain ⟨a1, a2, a3⟩ := gcA_eq x m 4 (Nat.le_refl _)
    obtain ⟨z1, z2⟩ := zeR_eq hx (fold2 (gcR x) m 4)
    have hz : ∀ y, bM y = false → ∀ i, i < 8 → oR (goR m x) y (nI i) = if y = x then 0 else oR m y (nI i) := fun y hy i hi => by
      show oR (zeR (fold2 (gcR x) m 4) x) y (nI i) = _
      rw [z1 y _ hy (bW_n (by omega)), a1 y i hy hi]
    have hv1 : ∀ y, ¬ y = x → ∀ u, ¬ u = 5 → ¬ u = 6 → vC (toC c x) y u = vC c y u := fun y hyx u h5 h6 => by
      rw [hv, if_neg hyx, p1.1 y u h5 h6]
    refine ⟨fun y hy => ?_, fun y hy hz1 => ?_⟩
    · rw [show (0 : Int32) = nI 0 from rfl, hz y hy 0 (by omega), hv]
      by_cases hyx : y = x
      · rw [if_pos hyx, if_pos hyx]
      · rw [if_neg hyx, if_neg hyx, p1.1 y _ (by decide) (by decide)]
        exact r0 y hy
    · have hyx : ¬ y = x := by
        intro q
        rw [hv, if_pos q] at hz1
        cases hz1
      have hz0 : vC c y 0 = 1 := by rw [← hv1 y hyx 0 (by decide) (by decide)]; exact hz1
      obtain ⟨b1, b2, b3, b4, b5, b6, b7, b8⟩ := r1 y hy hz0
      rw [hv1 y hyx 1 (by decide) (by decide), hv1 y hyx 2 (by decide) (by decide), hv1 y hyx 3 (by decide) (by decide), hv1 y hyx 4 (by decide) (by decide), hv1 y hyx 7 (by decide) (by decide), hv1 y hyx 8 (by decide) (by decide), hv1 y hyx 9 (by decide) (by decide)]
      have hn : ∀ i, i < 8 → oR (goR m x) y (nI i) = oR m y (nI i) := fun i hi => by rw [hz y hy i hi, if_neg hyx]
      refine ⟨(hn 1 (by omega)).trans b1, (hn 2 (by omega)).trans b2, (hn 3 (by omega)).trans b3, fun q => (hn 4 (by omega)).trans (b4 q), (hn 5 (by omega)).trans b5, (hn 6 (by omega)).trans b6, (hn 7 (by omega)).trans b7, fun s hs => ?_⟩
      obtain ⟨i, hi, rfl⟩ := bS_of hs
      show oR (zeR (fold2 (gcR x) m 4) x) y _ = _
      rw [z1 y _ hy (bW_8 hs), if_neg hyx, a2 y i hy hi, hp, q1 y i hi, icR_eq h.1 h.2.1 hy hs (bMm1 hx), b8 _ hs]
      by_cases hc : pC c y (nI i) = x
      · rw [if_pos ⟨hi, by simp [hc]⟩, if_pos ⟨hi, Or.inr hc⟩]
      · rw [if_neg (fun q => hc (by simpa using q.2)), if_neg (fun q => q.2.elim hyx hc)]
  · obtain ⟨a1, a2, a3⟩ := gcA_eq x m 4 (Nat.le_refl _)
    obtain ⟨z1, z2⟩ := zeR_eq hx (fold2 (gcR x) m 4)
    exact RlF_eq h.2.2 (fun j hj => (z2 j hj).trans (a3 j hj)) (fun k hk => by rw [hf, if_neg hk, ← hc1]; exact fig_toF x k 4 c)
  · rw [hv]
    split
    · rfl
    · exact p1.1 y u h5 h6
  · rw [hf, if_neg hk0]
    exact p1.2 k hk6 hk7
end GO

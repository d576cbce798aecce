/-! THE TWO SIDES: a tick, and ticks -/
section TK
variable {lo : Int32 → Nat} {d : Int32} {c c' : Ce} {m : Re}
theorem Ok_cnt (h : Ok lo d c m) {x w u : Int32} (v : Int32) (hx : bM x = false) (h0 : vC c x 0 = 1) (hp : (w = 5 ∧ u = 7) ∨ (w = 6 ∧ u = 8) ∨ (w = 7 ∧ u = 9)) : Ok lo d (svC c x u (vC c x u + v)) (addR m x w v) := by
  have hu : bV u = false := by rcases hp with q | q | q <;> rw [q.2] <;> decide
  have hw : bW w = false := by rcases hp with q | q | q <;> rw [q.1] <;> decide
  have hne : ∀ k, (k = 0 ∨ k = 3 ∨ k = 4 ∨ k = 5 ∨ k = 6) → ¬ k = u := fun k hk => by
    rcases hp with q | q | q <;> rw [q.2] <;> rcases hk with rfl | rfl | rfl | rfl | rfl <;> decide
  have he : oR m x w = vC c x u := by
    obtain ⟨b1, b2, b3, b4, b5, b6, b7, b8⟩ := h.2.1.2 x hx h0
    rcases hp with q | q | q
    · rw [q.1, q.2]; exact b5
    · rw [q.1, q.2]; exact b6
    · rw [q.1, q.2]; exact b7
  refine ⟨Iv_cg h.1 (fun y t => pC_sv c _ hu y t) (fun y => vC_sv_ne c _ hu y (hne 0 (by simp))) (fun y => vC_sv_ne c _ hu y (hne 5 (by simp))) (fun y => vC_sv_ne c _ hu y (hne 6 (by simp))) (fun y hy hz k => ?_) (lo_eq h.1 (fun y => vC_sv_ne c _ hu y (hne 3 (by simp))) (fun y => vC_sv_ne c _ hu y (hne 4 (by simp))) (figC_sv c _ hu 8)) (figC_sv c _ hu 0) (by rw [figC_sv c _ hu]; exact h.1.2.2.2.2.2.2.2), ?_, ?_⟩
  · rw [vC_sv c _ hx hu, if_neg]
    · exact (h.1.2.1 y hy hz).1 k
    · rintro ⟨rfl, -⟩
      rw [h0] at hz
      cases hz
  · unfold addR
    rw [he]
    refine RlM_set h.2.1 _ hx ?_ (fun q => ?_)
    · rcases hp with q | q | q
      · exact Or.inr (Or.inr (Or.inr (Or.inl q)))
      · exact Or.inr (Or.inr (Or.inr (Or.inr (Or.inl q))))
      · exact Or.inr (Or.inr (Or.inr (Or.inr (Or.inr q))))
    · rw [q] at hp
      rcases hp with q | q | q <;> exact absurd q.1 (by decide)
  · exact RlF_eq h.2.2 (fun i hi => up_lo m _ hx hw hi) (fun k _ => figC_sv c _ hu k)
theorem Ok_fig (h : Ok lo d c m) {k : Int32} {j : Nat} (v : Int32) (hp : (k = 1 ∧ j = 4) ∨ (k = 2 ∧ j = 5) ∨ (k = 3 ∧ j = 6) ∨ (k = 4 ∧ j = 7)) : Ok lo d (afC c k v) (addM m j v) := by
  have hk : bF k = false := by rcases hp with q | q | q | q <;> rw [q.1] <;> decide
  have hj : j < 11 := by omega
  have n0 : ¬ k = 0 := by rcases hp with q | q | q | q <;> rw [q.1] <;> decide
  have n8 : ¬ k = 8 := by rcases hp with q | q | q | q <;> rw [q.1] <;> decide
  have n10 : ¬ k = 10 := by rcases hp with q | q | q | q <;> rw [q.1] <;> decide
  refine ⟨Iv_af h.1 v hk n0 n8 n10, RlM_upd (RlM_af h.2.1 v hk) _ hj, ?_⟩
  obtain ⟨f0, f1, f2, f4, f5, f6, f7, f8, f9, f10⟩ := h.2.2
  unfold RlF addM
  simp only [figC_af c v hk]
  rcases hp with ⟨rfl, rfl⟩ | ⟨rfl, rfl⟩ | ⟨rfl, rfl⟩ | ⟨rfl, rfl⟩
  · exact ⟨f0, f1, f2, congrArg (· + v) f4, f5, f6, f7, f8, f9, f10⟩
  · exact ⟨f0, f1, f2, f4, congrArg (· + v) f5, f6, f7, f8, f9, f10⟩
  · exact ⟨f0, f1, f2, f4, f5, congrArg (· + v) f6, f7, f8, f9, f10⟩
  · exact ⟨f0, f1, f2, f4, f5, f6, congrArg (· + v) f7, f8, f9, f10⟩
theorem prR_eq (h : Ok lo d c m) {x : Int32} (hg : Gd c x) : prR m x (-1) = pcC c x := sumTo_congr (fun i hi => by rw [gtR_eq1 h.1 h.2.1 (bS_n hi) hg])
def rbV (c : Ce) (x n h ms : Int32) : Ce := afC (afC (afC (svC (svC (svC c x 7 (vC c x 7 + n)) x 8 (vC (svC c x 7 (vC c x 7 + n)) x 8 + h)) x 9 (vC (svC (svC c x 7 (vC c x 7 + n)) x 8 (vC (svC c x 7 (vC c x 7 + n)) x 8 + h)) x 9 + ms)) 2 n) 3 h) 4 ms
theorem rbV_ok (o : Ok lo d c m) {x : Int32} (n h ms : Int32) (hx : bM x = false) (h0 : vC c x 0 = 1) : Ok lo d (rbV c x n h ms) (stX m x n h ms) := by
  have o1 := Ok_cnt o n hx h0 (Or.inl ⟨rfl, rfl⟩)
  have o2 := Ok_cnt o1 h hx (by rw [vC_sv_ne _ _ bV_7 x (by decide)]; exact h0) (Or.inr (Or.inl ⟨rfl, rfl⟩))
  have o3 := Ok_cnt o2 ms hx (by rw [vC_sv_ne _ _ bV_8 x (by decide), vC_sv_ne _ _ bV_7 x (by decide)]; exact h0) (Or.inr (Or.inr ⟨rfl, rfl⟩))
  exact Ok_fig (Ok_fig (Ok_fig o3 n (Or.inr (Or.inl ⟨rfl, rfl⟩))) h (Or.inr (Or.inr (Or.inl ⟨rfl, rfl⟩)))) ms (Or.inr (Or.inr (Or.inr ⟨rfl, rfl⟩)))
theorem rbV_VE (c : Ce) {x : Int32} (hx : bM x = false) : VE (rbC c x 1) (rbV c x (pcC c x) (haI c x) (miI c x)) := by
  refine ⟨fun y t => ?_, fun y u => ?_, fun k => ?_⟩
  · rw [rbC_pC]
    unfold rbV
    rw [pC_af _ _ bF_4, pC_af _ _ bF_3, pC_af _ _ bF_2, pC_sv _ _ bV_9, pC_sv _ _ bV_8, pC_sv _ _ bV_7]
  · rw [rbC_v _ _ hx]
    unfold rbV dvC
    rw [vC_af _ _ bF_4, vC_af _ _ bF_3, vC_af _ _ bF_2, vC_sv _ _ hx bV_9, vC_sv_ne _ _ bV_8 x (show ¬ (9 : Int32) = 8 by decide), vC_sv_ne _ _ bV_7 x (show ¬ (9 : Int32) = 7 by decide), vC_sv _ _ hx bV_8, vC_sv_ne _ _ bV_7 x (show ¬ (8 : Int32) = 7 by decide), vC_sv _ _ hx bV_7]
    by_cases hyx : y = x
    · subst hyx
      by_cases h7 : u = 7
      · simp [h7]
      · by_cases h8 : u = 8
        · simp [h8]
        · by_cases h9 : u = 9
          · simp [h9]
          · simp [h7, h8, h9]
    · simp [hyx]
  · rw [rbC_f _ _ hx]
    unfold rbV dfC
    rw [figC_af _ _ bF_4, figC_af _ _ bF_3, figC_af _ _ bF_3, figC_af _ _ bF_2, figC_af _ _ bF_2, figC_af _ _ bF_2]
    simp only [figC_sv _ _ bV_9, figC_sv _ _ bV_8, figC_sv _ _ bV_7]
    by_cases h2 : k = 2
    · simp [h2]
    · by_cases h3 : k = 3
      · simp [h3]
      · by_cases h4 : k = 4
        · simp [h4]
        · simp [h2, h3, h4]
theorem stR_ok (o : Ok lo d c m) {x : Int32} (hx : bM x = false) (h0 : vC c x 0 = 1) : Ok lo d (rbC c x 1) (stR m x) := by
  have hg : Gd c x := Or.inr (Or.inr ⟨hx, h0⟩)
  have e1 := prR_eq o hg
  have e2 : shI (pcC c x) = haI c x := rfl
  have e3 : smI m x (pcC c x) = miI c x := by
    unfold smI miI flC
    rw [(o.2.1.2 x hx h0).2.2.1]
    rcases f01 o.1 hx h0 with q | q <;> simp [q]
  unfold stR
  rw [e1, e2, e3]
  exact Ok_VE (rbV_VE c hx) (rbV_ok o _ _ _ hx h0)
theorem ts_ok (o : Ok lo d c m) : ∃ m', tsO m = some m' ∧ Ok lo d (sbC c 1).2 m' := by
  refine goO_fold (F := sbF 1) (G := tsF) (fun _ a b => Ok lo d a.2 b) 32 (fun j a b hj hab => ?_) 32 0 (0, afC c 1 1) (addM m 4 1) rfl (by rw [fold2_0]; exact Ok_fig o 1 (Or.inl ⟨rfl, rfl⟩))
  have hM := bM_n hj
  unfold tsF sbF
  rw [jR_eq hab.2.1 hM, jnC]
  by_cases h0 : vC a.2 (nI j) 0 = 1
  · simp only [h0, decide_true, if_true]
    rw [if_pos (okA_eq hab.1 hab.2.1 (Or.inr (Or.inr ⟨hM, h0⟩)))]
    exact ⟨_, rfl, stR_ok hab hM h0⟩
  · simp only [h0, decide_false, Bool.false_eq_true, if_false]
    exact ⟨b, rfl, hab⟩
theorem Iv_lo {lo' : Int32 → Nat} (iv : Iv lo c) (h : ∀ x, bM x = false → vC c x 0 = 1 → lo' x ≤ lo x ∨ (lo' x ≤ 1 ∧ ¬ vC c x 4 = figC c 8) ∨ vC c x 3 = 0) : Iv lo' c := by
  obtain ⟨i1, i2, i3, i4, i5, i6, i7, i8⟩ := iv
  refine ⟨i1, i2, i3, fun x hx h0 => ?_, i5, i6, i7, i8⟩
  rcases i4 x hx h0 with q | ⟨q3, k, k1, k2, k3⟩
  · exact Or.inl q
  · refine Or.inr ⟨q3, k, ?_, k2, k3⟩
    rcases h x hx h0 with p | p | p
    · omega
    · have : ¬ k = 0 := by
        rintro rfl
        apply p.2
        rw [k3, nI_0, Int32.add_zero]
      omega
    · rw [q3] at p
      cases p
def loN (n : Nat) : Int32 → Nat := fun y => if y.toNatClampNeg < n then 1 else 0
def Pw (c c' : Ce) : Prop := ∀ k, ¬ k = 0 → ¬ k = 5 → ¬ k = 6 → ¬ k = 7 → figC c' k = figC c k
theorem RlF_8 {e : Int32} (r : RlF d c m) (h : e = d + 1) : RlF e c (addM m 8 1) := by
  obtain ⟨f0, f1, f2, f4, f5, f6, f7, f8, f9, f10⟩ := r
  refine ⟨f0, f1, f2, f4, f5, f6, f7, ?_, f9, f10⟩
  show m 8 + 1 = _
  rw [f8, h, Int32.add_assoc]
theorem RlF_5 (r : RlF 1 c m) : RlF 0 (afC c 5 1) m := by
  obtain ⟨f0, f1, f2, f4, f5, f6, f7, f8, f9, f10⟩ := r
  unfold RlF
  simp only [figC_af c 1 bF_5]
  exact ⟨f0, f1, f2, f4, f5, f6, f7, f8.trans (Int32.add_zero _).symm, f9, f10⟩
theorem nf_ok (o : Ok (loN 0) 0 c m) : ∃ m', goO tnF 32 0 m = some m' ∧ Ok (loN 32) 0 (nfC c) m' ∧ Pw c (nfC c) := by
  refine goO_fold (F := nfF) (G := tnF) (fun n a b => Ok (loN n) 0 a b ∧ Pw c a) 32 (fun j a b hj hab => ?_) 32 0 c m rfl (by rw [fold2_0]; exact ⟨o, fun _ _ _ _ _ => rfl⟩)
  obtain ⟨o, pw⟩ := hab
  have hM := bM_n hj
  have hlo : ∀ y, bM y = false → loN (j + 1) y ≤ loN j y ∨ (loN (j + 1) y ≤ 1 ∧ y = nI j) := fun y hy => by
    obtain ⟨i, hi, rfl⟩ := bM_of hy
    unfold loN
    rw [nI_clamp (by omega)]
    by_cases hij : i = j
    · subst hij
      exact Or.inr ⟨by split <;> omega, rfl⟩
    · refine Or.inl ?_
      by_cases h1 : i < j
      · rw [if_pos h1, if_pos (by omega)]
        exact Nat.le_refl _
      · rw [if_neg h1, if_neg (by omega)]
        exact Nat.le_refl _
  unfold tnF nfF
  rw [jR_eq o.2.1 hM, flC]
  by_cases h0 : vC a (nI j) 0 = 1
  · obtain ⟨b1, b2, b3, b4, b5, b6, b7, b8⟩ := o.2.1.2 _ hM h0
    simp only [h0, decide_true, if_true, b3, decide_eq_true_eq]
    by_cases h3 : vC a (nI j) 3 = 1
    · rw [if_pos h3, if_pos h3, b4 h3, o.2.2.2.2.1]
      by_cases h4 : vC a (nI j) 4 = figC a 8
      · rw [if_pos h4, if_pos h4]
        have o1 : Ok (loN j) 1 a (addM b 8 1) := ⟨o.1, RlM_upd o.2.1 _ (by omega), RlF_8 o.2.2 rfl⟩
        obtain ⟨o2, t1, t2⟩ := toC_ok o1 hM h0
        obtain ⟨m', g1, g2, g3⟩ := aoC_ok o2
        refine ⟨m', g1, ⟨Iv_lo (Iv_af g2.1 1 bF_5 (by decide) (by decide) (by decide)) (fun y hy hy0 => ?_), RlM_af g2.2.1 1 bF_5, RlF_5 g2.2.2⟩, fun k k0 k5 k6 k7 => ?_⟩
        · rcases hlo y hy with q | q
          · exact Or.inl q
          · exfalso
            rw [vC_af _ _ bF_5, g3.1 y 0 (by decide) (by decide), t1 y 0 (by decide) (by decide), if_pos q.2] at hy0
            cases hy0
        · rw [figC_af _ _ bF_5, if_neg k5, g3.2 k k6 k7, t2 k k0 k6 k7]
          exact pw k k0 k5 k6 k7
      · rw [if_neg h4, if_neg h4]
        refine ⟨b, rfl, ⟨Iv_lo o.1 (fun y hy hy0 => ?_), o.2.1, o.2.2⟩, pw⟩
        rcases hlo y hy with q | q
        · exact Or.inl q
        · refine Or.inr (Or.inl ⟨q.1, ?_⟩)
          rw [q.2]
          exact h4
    · rw [if_neg h3, if_neg h3]
      refine ⟨b, rfl, ⟨Iv_lo o.1 (fun y hy hy0 => ?_), o.2.1, o.2.2⟩, pw⟩
      rcases hlo y hy with q | q
      · exact Or.inl q
      · refine Or.inr (Or.inr ?_)
        rw [q.2]
        exact (f01 o.1 hM h0).resolve_right h3
  · have z := (o.1.2.1 _ hM (unj o.1 hM h0)).1 3
    simp only [h0, decide_false, Bool.false_eq_true, if_false, z]
    rw [if_neg (by decide)]
    refine ⟨b, rfl, ⟨Iv_lo o.1 (fun y hy hy0 => ?_), o.2.1, o.2.2⟩, pw⟩
    rcases hlo y hy with q | q
    · exact Or.inl q
    · exfalso
      rw [q.2] at hy0
      exact h0 hy0
theorem nf_id (iv : Iv (fun _ => 1) c) : nfC c = c := by
  have : ∀ n, n ≤ 32 → fold2 nfF c n = c := by
    intro n
    induction n with
    | zero => exact fun _ => fold2_0 _ _
    | succ n ih =>
      intro hn
      rw [fold2_s, ih (by omega)]
      have hM := bM_n (show n < 32 by omega)
      unfold nfF flC
      by_cases h3 : vC c (nI n) 3 = 1
      · have h0 : vC c (nI n) 0 = 1 := by
          by_cases q : vC c (nI n) 0 = 1
          · exact q
          · rw [(iv.2.1 _ hM (unj iv hM q)).1 3] at h3
            cases h3
        rw [if_pos (by simp [h3]), if_neg]
        intro h4
        rcases iv.2.2.2.1 _ hM h0 with q | ⟨-, k, k1, k2, k3⟩
        · rw [q.1] at h3
          cases h3
        · rw [k3] at h4
          have h5 : nI k = 0 := by
            have := congrArg (· - figC c 8) h4
            simp only [Int32.sub_self] at this
            rw [Int32.add_comm, Int32.add_sub_cancel] at this
            exact this
          have k1' : 1 ≤ k := k1
          exact nI_ne0 (by omega) (by omega) h5
      · rw [if_neg (by simpa using h3)]
  exact this 32 (Nat.le_refl _)
/-- time goes on -/
theorem Ok_time {lo' : Int32 → Nat} (o : Ok lo 0 c m) (t : Nat) (h : ∀ x, bM x = false → vC c x 0 = 1 → ∀ k, lo x ≤ k → k ≤ 20 → vC c x 3 = 1 → vC c x 4 = figC c 8 + nI k → lo' x + t ≤ k) : Ok lo' 0 (afC c 8 (nI t)) (addM m 2 (nI t)) := by
  obtain ⟨f0, f1, f2, f4, f5, f6, f7, f8, f9, f10⟩ := o.2.2
  have hf : ∀ k, figC (afC c 8 (nI t)) k = if k = 8 then figC c 8 + nI t else figC c k := fun k => figC_af c _ bF_8 k
  refine ⟨Iv_cg o.1 (fun y u => pC_af c _ bF_8 y u) (fun y => vC_af c _ bF_8 y 0) (fun y => vC_af c _ bF_8 y 5) (fun y => vC_af c _ bF_8 y 6) (fun y hy hz w => by rw [vC_af c _ bF_8]; exact (o.1.2.1 y hy hz).1 w) (fun x hx h0 => ?_) (by rw [hf, if_neg (by decide)]) (by rw [hf, if_neg (by decide)]; exact o.1.2.2.2.2.2.2.2), RlM_upd (RlM_af o.2.1 _ bF_8) _ (by omega), ?_⟩
  · rw [vC_af c _ bF_8, vC_af c _ bF_8, hf, if_pos rfl]
    rcases o.1.2.2.2.1 x hx h0 with q | ⟨q3, k, k1, k2, k3⟩
    · exact Or.inl q
    · have := h x hx h0 k k1 k2 q3 k3
      refine Or.inr ⟨q3, k - t, by omega, by omega, ?_⟩
      rw [k3, Int32.add_assoc, nI_add, show t + (k - t) = k by omega]
  · unfold RlF addM
    simp only [hf]
    exact ⟨f0, f1, congrArg (· + nI t) f2, f4, f5, f6, f7, f8, f9, f10⟩
end TK

/-! THE TWO SIDES: more of the changes -/
section OPT
variable {lo : Int32 → Nat} {d : Int32} {c : Ce} {m : Re}
/-- one value of a joined member is set on both sides -/
theorem RlM_set (r : RlM c m) {x w u : Int32} (v : Int32) (hx : bM x = false) (hp : (w = 1 ∧ u = 1) ∨ (w = 3 ∧ u = 3) ∨ (w = 4 ∧ u = 4) ∨ (w = 5 ∧ u = 7) ∨ (w = 6 ∧ u = 8) ∨ (w = 7 ∧ u = 9)) (hq : w = 3 → oR m x 4 = vC c x 4) : RlM (svC c x u v) (upR m x w v) := by
  obtain ⟨r0, r1⟩ := r
  have hu : bV u = false := by rcases hp with q | q | q | q | q | q <;> rw [q.2] <;> decide
  have hw : bW w = false := by rcases hp with q | q | q | q | q | q <;> rw [q.1] <;> decide
  have hw8 : ∃ j, j < 8 ∧ w = nI j := by
    rcases hp with q | q | q | q | q | q
    · exact ⟨1, by omega, q.1⟩
    · exact ⟨3, by omega, q.1⟩
    · exact ⟨4, by omega, q.1⟩
    · exact ⟨5, by omega, q.1⟩
    · exact ⟨6, by omega, q.1⟩
    · exact ⟨7, by omega, q.1⟩
  have hu0 : ¬ (0 : Int32) = u := by rcases hp with q | q | q | q | q | q <;> rw [q.2] <;> decide
  have hw0 : ¬ (0 : Int32) = w := by rcases hp with q | q | q | q | q | q <;> rw [q.1] <;> decide
  have hu2 : ¬ (2 : Int32) = u := by rcases hp with q | q | q | q | q | q <;> rw [q.2] <;> decide
  have hw2 : ¬ (2 : Int32) = w := by rcases hp with q | q | q | q | q | q <;> rw [q.1] <;> decide
  have e1 : (1 : Int32) = w ↔ (1 : Int32) = u := by rcases hp with q | q | q | q | q | q <;> rw [q.1, q.2] <;> decide
  have e3 : (3 : Int32) = w ↔ (3 : Int32) = u := by rcases hp with q | q | q | q | q | q <;> rw [q.1, q.2] <;> decide
  have e4 : (4 : Int32) = w ↔ (4 : Int32) = u := by rcases hp with q | q | q | q | q | q <;> rw [q.1, q.2] <;> decide
  have e5 : (5 : Int32) = w ↔ (7 : Int32) = u := by rcases hp with q | q | q | q | q | q <;> rw [q.1, q.2] <;> decide
  have e6 : (6 : Int32) = w ↔ (8 : Int32) = u := by rcases hp with q | q | q | q | q | q <;> rw [q.1, q.2] <;> decide
  have e7 : (7 : Int32) = w ↔ (9 : Int32) = u := by rcases hp with q | q | q | q | q | q <;> rw [q.1, q.2] <;> decide
  have key : ∀ y, bM y = false → ∀ a b, bW a = false → (a = w ↔ b = u) → oR m y a = vC c y b → oR (upR m x w v) y a = vC (svC c x u v) y b := fun y hy a b ha hab h => by
    rw [oR_up m v hx hw hy ha, vC_sv c v hx hu]
    by_cases q : y = x ∧ a = w
    · rw [if_pos q, if_pos ⟨q.1, hab.mp q.2⟩]
    · rw [if_neg q, if_neg (fun q2 => q ⟨q2.1, hab.mpr q2.2⟩)]
      exact h
  refine ⟨fun y hy => key y hy 0 0 bW_0 ⟨fun q => absurd q hw0, fun q => absurd q hu0⟩ (r0 y hy), fun y hy h0 => ?_⟩
  rw [vC_sv_ne c v hu y hu0] at h0
  obtain ⟨b1, b2, b3, b4, b5, b6, b7, b8⟩ := r1 y hy h0
  refine ⟨key y hy 1 1 bW_1 e1 b1, key y hy 2 2 bW_2 ⟨fun q => absurd q hw2, fun q => absurd q hu2⟩ b2, key y hy 3 3 bW_3 e3 b3, fun h3 => ?_, key y hy 5 7 bW_5 e5 b5, key y hy 6 8 bW_6 e6 b6, key y hy 7 9 bW_7 e7 b7, fun s hs => ?_⟩
  · rw [oR_up m v hx hw hy bW_4, vC_sv c v hx hu]
    by_cases q : y = x ∧ (4 : Int32) = w
    · rw [if_pos q, if_pos ⟨q.1, e4.mp q.2⟩]
    · rw [if_neg q, if_neg (fun q2 => q ⟨q2.1, e4.mpr q2.2⟩)]
      rw [vC_sv c v hx hu] at h3
      by_cases q3 : y = x ∧ (3 : Int32) = u
      · have w3 : w = 3 := (e3.mpr q3.2).symm
        rw [q3.1]
        exact hq w3
      · rw [if_neg q3] at h3
        exact b4 h3
  · rw [oR_up m v hx hw hy (bW_8 hs), if_neg, pC_sv c v hu]
    · exact b8 s hs
    · rintro ⟨-, q⟩
      obtain ⟨j, hj, hj'⟩ := hw8
      exact n8 hs hj (hj'.symm.trans q.symm)
theorem Iv_sf (iv : Iv lo c) {k : Int32} (v : Int32) (hk : bF k = false) (h0 : ¬ k = 0) (h8 : ¬ k = 8) (h10 : k = 10 → ∃ j, 1 ≤ j ∧ j ≤ 20 ∧ v = nI j) : Iv lo (sfC c k v) := by
  refine Iv_cg iv (fun y t => pC_sf c v hk y t) (fun y => vC_sf c v hk y 0) (fun y => vC_sf c v hk y 5) (fun y => vC_sf c v hk y 6) (fun y hy hz w => by rw [vC_sf c v hk]; exact (iv.2.1 y hy hz).1 w) (lo_eq iv (fun y => vC_sf c v hk y 3) (fun y => vC_sf c v hk y 4) (by rw [figC_sf c v hk, if_neg (Ne.symm h8)])) (by rw [figC_sf c v hk, if_neg (Ne.symm h0)]) ?_
  rw [figC_sf c v hk]
  by_cases q : (10 : Int32) = k
  · rw [if_pos q]
    exact h10 q.symm
  · rw [if_neg q]
    exact iv.2.2.2.2.2.2.2
theorem RlM_sf (r : RlM c m) {k : Int32} (v : Int32) (hk : bF k = false) : RlM (sfC c k v) m := by
  unfold RlM at r ⊢
  simp only [vC_sf c v hk, pC_sf c v hk]
  exact r
theorem bF_9 : bF 9 = false := by decide
theorem bF_10 : bF 10 = false := by decide
theorem bF_8 : bF 8 = false := by decide
theorem bR_of1 {w : Int32} {n : Nat} (hn : n + 1 < 2 ^ 31) (h : bR w 1 (nI n) = false) : ∃ j : Nat, 1 ≤ j ∧ j ≤ n ∧ w = nI j := by
  simp only [bR, Bool.or_eq_false_iff, decide_eq_false_iff_not, Decidable.not_not] at h
  obtain ⟨h1, h2⟩ := h
  have h0 : ¬ w < 0 := by
    intro q
    apply h1
    rw [Int32.lt_iff_toInt_lt] at q ⊢
    have e0 : (0 : Int32).toInt = 0 := rfl
    have e1 : (1 : Int32).toInt = 1 := rfl
    omega
  obtain ⟨j, hj, rfl⟩ := nI_of h0
  rw [nI_leI (by omega) (by omega)] at h2
  rw [show (1 : Int32) = nI 1 from rfl, nI_ltI (by omega) (by omega)] at h1
  exact ⟨j, by omega, h2, rfl⟩
theorem op_setDelay (h : St c m) {b : Int32} (hb : bR b 1 20 = false) : m 1 = figC c 10 ∧ St (sfC c 10 b) (upd m 1 b) := by
  obtain ⟨f0, f1, f2, f4, f5, f6, f7, f8, f9, f10⟩ := h.2.2
  obtain ⟨j, h1, h2, rfl⟩ := bR_of1 (n := 20) (by omega) hb
  refine ⟨f1, Iv_sf h.1 _ bF_10 (by decide) (by decide) (fun _ => ⟨j, h1, h2, rfl⟩), RlM_upd (RlM_sf h.2.1 _ bF_10) _ (by omega), ?_⟩
  unfold RlF
  simp only [figC_sf c _ bF_10]
  exact ⟨f0, rfl, f2, f4, f5, f6, f7, f8, f9, f10⟩
theorem cutAll_ok {a : Int32} {b : Nat} (hb : b ≤ 32) (ha : ¬ a = -1) (h : Ok lo d c m) : ∃ m', goO (cuS a (nI b)) 4 0 m = some m' ∧ Ok lo d (fold2 (fun s c => cutC c a (nI s) (nI b)) c 4) m' := by
  refine goO_fold (F := fun s c => cutC c a (nI s) (nI b)) (G := cuS a (nI b)) (fun _ a' b' => Ok lo d a' b') 4 (fun j a' b' hj hab => ?_) 4 0 c m rfl (by rw [fold2_0]; exact h)
  obtain ⟨m', h1, h2, -, -, -⟩ := cutC_ok hb ha (bS_n hj) hab
  exact ⟨m', h1, h2⟩
theorem op_setSource (h : St c m) {b : Int32} (hb : bR b 1 8 = false) : ∃ m', ((goO (cuS 100 b) 4 0 (upd m 0 b)).bind aaO).map (fun m' => (m 0, m')) = some (figC c 9, m') ∧ St (ssC c b) m' := by
  obtain ⟨f0, f1, f2, f4, f5, f6, f7, f8, f9, f10⟩ := h.2.2
  obtain ⟨j, h1, h2, rfl⟩ := bR_of1 (n := 8) (by omega) hb
  have o1 : Ok (fun _ => 1) 0 (sfC c 9 (nI j)) (upd m 0 (nI j)) := by
    refine ⟨Iv_sf h.1 _ bF_9 (by decide) (by decide) (fun q => (by cases q)), RlM_upd (RlM_sf h.2.1 _ bF_9) _ (by omega), ?_⟩
    unfold RlF
    simp only [figC_sf c _ bF_9]
    exact ⟨rfl, f1, f2, f4, f5, f6, f7, f8, f9, f10⟩
  obtain ⟨m1, g1, g2⟩ := cutAll_ok (a := 100) (b := j) (by omega) (by decide) o1
  obtain ⟨m', g3, g4, -⟩ := aoC_ok g2
  refine ⟨m', ?_, g4⟩
  rw [g1, f0]
  show (aaO m1).map _ = _
  rw [g3]
  rfl
theorem cutC_0 {a s : Int32} {b : Nat} (hb : b ≤ 32) (h : cnt c a s ≤ b) : cutC c a s (nI b) = c := by
  have hl := cnt_le c a s
  unfold cutC
  rw [chC_cnt, nI_toInt (by omega), nI_toInt (by omega), show ((cnt c a s : Int) - (b : Int)).toNat = 0 by omega]
  rfl
theorem cutS_eq {x : Int32} {b : Nat} (hb : b ≤ 32) (hx : bM x = false) (h : Ok lo d c m) (h0 : vC c x 0 = 1) : fold2 (fun s c => cutC c x (nI s) (nI b)) c 4 = cutC c x (vC c x 6) (nI b) := by
  have hk := h.1.2.2.2.2.1 x hx
  by_cases ht : tot c x = 0
  · rw [hk.2.1 ht h0]
    have e1 : cnt c x (-1) = 0 := cN_zero (fun i _ => by
      rw [pC_out (Or.inr (by decide))]
      simpa using Ne.symm (bMm1 hx))
    rw [cutC_0 hb (by omega)]
    have : ∀ j, j ≤ 4 → fold2 (fun s c => cutC c x (nI s) (nI b)) c j = c := by
      intro j
      induction j with
      | zero => exact fun _ => fold2_0 _ _
      | succ j ih =>
        intro hj
        rw [fold2_s, ih (by omega)]
        have := cnt_tot (c := c) (y := x) (bS_n (show j < 4 by omega))
        exact cutC_0 hb (by omega)
    exact this 4 (Nat.le_refl _)
  · have hex : ∃ i, i < 4 ∧ ¬ cnt c x (nI i) = 0 := by
      by_cases q0 : cnt c x (nI 0) = 0
      · by_cases q1 : cnt c x (nI 1) = 0
        · by_cases q2 : cnt c x (nI 2) = 0
          · refine ⟨3, by omega, fun q3 => ht ?_⟩
            unfold tot
            rw [show (0 : Int32) = nI 0 from rfl, show (1 : Int32) = nI 1 from rfl, show (2 : Int32) = nI 2 from rfl, show (3 : Int32) = nI 3 from rfl, q0, q1, q2, q3]
          · exact ⟨2, by omega, q2⟩
        · exact ⟨1, by omega, q1⟩
      · exact ⟨0, by omega, q0⟩
    obtain ⟨i, hi, hc⟩ := hex
    have hS := bS_n hi
    have h6 := hk.2.2 _ hS hc
    rw [h6]
    obtain ⟨m1, -, -, -, q2, -⟩ := cutC_ok hb (bMm1 hx) hS h
    have hz : ∀ t, bS t = false → ¬ t = nI i → cnt c x t = 0 := fun t ht hti => cnt_other hk hS ht hti (Or.inr h6)
    have hz2 : ∀ t, bS t = false → ¬ t = nI i → cnt (cutC c x (nI i) (nI b)) x t = 0 := fun t ht hti => cN_zero (fun k hk' => by
      have e := cnt_zero (hz t ht hti) (bM_n hk')
      rcases q2 (nI k) t with q | q
      · rw [q]
        simpa using e
      · exact absurd q.1 hti)
    have : ∀ j, j ≤ 4 → fold2 (fun s c => cutC c x (nI s) (nI b)) c j = if i < j then cutC c x (nI i) (nI b) else c := by
      intro j
      induction j with
      | zero => exact fun _ => fold2_0 _ _
      | succ j ih =>
        intro hj
        rw [fold2_s, ih (by omega)]
        have hSj := bS_n (show j < 4 by omega)
        by_cases hij : i = j
        · subst hij
          rw [if_neg (by omega), if_pos (by omega)]
        · have hne : ¬ nI j = nI i := fun q => hij ((nI_eq (by omega) (by omega)).mp q).symm
          by_cases hlt : i < j
          · rw [if_pos hlt, if_pos (by omega)]
            have := hz2 _ hSj hne
            exact cutC_0 hb (by omega)
          · rw [if_neg hlt, if_neg (by omega)]
            have := hz _ hSj hne
            exact cutC_0 hb (by omega)
    rw [this 4 (Nat.le_refl _), if_pos hi]
theorem op_setBound (h : St c m) {x b : Int32} (hx : bM x = false) (hb : bR b 0 8 = false) (hj : jR m x = true) : ∃ m', ((goO (cuS x b) 4 0 (upR m x 1 b)).bind aaO).map (fun m' => (oR m x 1, m')) = some (vC c x 1, m') ∧ St (sbdC c x b) m' := by
  rw [jR_eq h.2.1 hx] at hj
  have h0 : vC c x 0 = 1 := by simpa using hj
  obtain ⟨j, h1, rfl⟩ := bR_of (n := 8) (by omega) hb
  have o1 : Ok (fun _ => 1) 0 (svC c x 1 (nI j)) (upR m x 1 (nI j)) := by
    refine ⟨Iv_cg h.1 (fun y t => pC_sv c _ bV_1 y t) (fun y => vC_sv_ne c _ bV_1 y (by decide)) (fun y => vC_sv_ne c _ bV_1 y (by decide)) (fun y => vC_sv_ne c _ bV_1 y (by decide)) (fun y hy hz w => ?_) (lo_eq h.1 (fun y => vC_sv_ne c _ bV_1 y (by decide)) (fun y => vC_sv_ne c _ bV_1 y (by decide)) (figC_sv c _ bV_1 8)) (figC_sv c _ bV_1 0) (by rw [figC_sv c _ bV_1]; exact h.1.2.2.2.2.2.2.2), RlM_set h.2.1 _ hx (Or.inl ⟨rfl, rfl⟩) (fun q => (by cases q)), RlF_eq h.2.2 (fun i hi => up_lo m _ hx bW_1 hi) (fun k _ => figC_sv c _ bV_1 k)⟩
    rw [vC_sv c _ hx bV_1, if_neg]
    · exact (h.1.2.1 y hy hz).1 w
    · rintro ⟨rfl, -⟩
      rw [h0] at hz
      cases hz
  obtain ⟨m1, g1, g2⟩ := cutAll_ok (a := x) (b := j) (by omega) (bMm1 hx) o1
  rw [cutS_eq (by omega) hx o1 (by rw [vC_sv_ne c _ bV_1 x (by decide)]; exact h0)] at g2
  obtain ⟨m', g3, g4, -⟩ := aoC_ok g2
  refine ⟨m', ?_, g4⟩
  rw [g1, (h.2.1.2 x hx h0).1]
  show (aaO m1).map _ = _
  rw [g3]
  rfl
theorem upR_comm2 (m : Re) {x w u : Int32} (v v' : Int32) (hx : bM x = false) (hw : bW w = false) (hu : bW u = false) (h : ¬ w = u) : upR (upR m x w v) x u v' = upR (upR m x u v') x w v := by
  obtain ⟨i, hi, rfl⟩ := bM_of hx
  obtain ⟨j, hj, rfl⟩ := bW_of hw
  obtain ⟨j', hj', rfl⟩ := bW_of hu
  unfold upR
  rw [ix_r hi hj, ix_r hi hj']
  refine upd_comm m v v' (fun q => h ?_)
  rw [show j = j' by omega]
theorem svC_comm (c : Ce) {x w u : Int32} (v v' : Int32) (hx : bM x = false) (hw : bV w = false) (hu : bV u = false) (h : ¬ w = u) : svC (svC c x w v) x u v' = svC (svC c x u v') x w v := by
  rw [svC_in hx hu, svC_in hx hw, svC_in hx hw, svC_in hx hu]
  obtain ⟨i, hi, rfl⟩ := bM_of hx
  obtain ⟨j, hj, rfl⟩ := bV_of hw
  obtain ⟨j', hj', rfl⟩ := bV_of hu
  rw [ix_v hi hj, ix_v hi hj']
  refine upd_comm c v v' (fun q => h ?_)
  rw [show j = j' by omega]
theorem op_fail (h : St c m) {x : Int32} (hx : bM x = false) (hj : jR m x = true) : (upR (upR m x 3 1) x 4 (upR m x 3 1 2 + upR m x 3 1 1) 2 + upR (upR m x 3 1) x 4 (upR m x 3 1 2 + upR m x 3 1 1) 1 = figC c 8 + figC c 10) ∧ St (faC c x) (upR (upR m x 3 1) x 4 (upR m x 3 1 2 + upR m x 3 1 1)) := by
  rw [jR_eq h.2.1 hx] at hj
  have h0 : vC c x 0 = 1 := by simpa using hj
  obtain ⟨f0, f1, f2, f4, f5, f6, f7, f8, f9, f10⟩ := h.2.2
  rw [up_lo m _ hx bW_3 (show 2 < 11 by omega), up_lo m _ hx bW_3 (show 1 < 11 by omega), up_lo _ _ hx bW_4 (by omega), up_lo _ _ hx bW_4 (by omega), up_lo m _ hx bW_3 (by omega), up_lo m _ hx bW_3 (by omega), f1, f2]
  refine ⟨rfl, ?_, ?_, RlF_eq h.2.2 (fun i hi => (up_lo _ _ hx bW_4 hi).trans (up_lo m _ hx bW_3 hi)) (fun k _ => (figC_sv _ _ bV_4 k).trans (figC_sv c _ bV_3 k))⟩
  · have hv : ∀ y u, vC (faC c x) y u = if y = x ∧ u = 4 then figC c 8 + figC c 10 else if y = x ∧ u = 3 then 1 else vC c y u := fun y u => by
      unfold faC
      rw [vC_sv _ _ hx bV_4, vC_sv _ _ hx bV_3]
    have hf : ∀ k, figC (faC c x) k = figC c k := fun k => (figC_sv _ _ bV_4 k).trans (figC_sv c _ bV_3 k)
    refine Iv_cg h.1 (fun y t => (pC_sv _ _ bV_4 y t).trans (pC_sv c _ bV_3 y t)) (fun y => by rw [hv]; simp) (fun y => by rw [hv]; simp) (fun y => by rw [hv]; simp) (fun y hy hz w => ?_) (fun y hy hy0 => ?_) (hf 0) (by rw [hf]; exact h.1.2.2.2.2.2.2.2)
    · have hyx : ¬ y = x := by
        rintro rfl
        rw [h0] at hz
        cases hz
      rw [hv, if_neg (fun q => hyx q.1), if_neg (fun q => hyx q.1)]
      exact (h.1.2.1 y hy hz).1 w
    · by_cases hyx : y = x
      · obtain ⟨k, k1, k2, k3⟩ := h.1.2.2.2.2.2.2.2
        refine Or.inr ⟨by rw [hv, if_neg (fun q => absurd q.2 (by decide)), if_pos ⟨hyx, rfl⟩], k, k1, k2, ?_⟩
        rw [hv, if_pos ⟨hyx, rfl⟩, hf, k3]
      · rw [hv, hv, hf, if_neg (fun q => hyx q.1), if_neg (fun q => hyx q.1), if_neg (fun q => hyx q.1), if_neg (fun q => hyx q.1)]
        exact h.1.2.2.2.1 y hy hy0
  · have ec : faC c x = svC (svC c x 4 (figC c 8 + figC c 10)) x 3 1 := svC_comm c _ _ hx bV_3 bV_4 (by decide)
    rw [ec, upR_comm2 m _ _ hx bW_3 bW_4 (by decide)]
    refine RlM_set (RlM_set h.2.1 _ hx (Or.inr (Or.inr (Or.inl ⟨rfl, rfl⟩))) (fun q => (by cases q))) _ hx (Or.inr (Or.inl ⟨rfl, rfl⟩)) (fun _ => ?_)
    rw [oR_up _ _ hx bW_4 hx bW_4, vC_sv _ _ hx bV_4, if_pos ⟨rfl, rfl⟩, if_pos ⟨rfl, rfl⟩]
end OPT

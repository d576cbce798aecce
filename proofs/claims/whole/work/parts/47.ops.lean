/-! THE TWO SIDES: the changes, one by one -/
section OPS
variable {lo : Int32 → Nat} {d : Int32} {c : Ce} {m : Re}
theorem bV_0 : bV 0 = false := by decide
theorem bV_1 : bV 1 = false := by decide
theorem bV_2 : bV 2 = false := by decide
theorem bV_3 : bV 3 = false := by decide
theorem bV_4 : bV 4 = false := by decide
theorem vC_ti (c : Ce) {x : Int32} (b p : Int32) (hx : bM x = false) (y u : Int32) : vC (tiC c x b p) y u = if y = x ∧ u = 6 then -1 else if y = x ∧ u = 4 then -1 else if y = x ∧ u = 2 then p else if y = x ∧ u = 1 then b else if y = x ∧ u = 0 then 1 else vC c y u := by
  unfold tiC
  rw [vC_af _ _ bF_0, vC_sv _ _ hx bV_6, vC_sv _ _ hx bV_4, vC_sv _ _ hx bV_2, vC_sv _ _ hx bV_1, vC_sv _ _ hx bV_0]
theorem pC_ti (c : Ce) (x b p y t : Int32) : pC (tiC c x b p) y t = pC c y t := by
  unfold tiC
  rw [pC_af _ _ bF_0, pC_sv _ _ bV_6, pC_sv _ _ bV_4, pC_sv _ _ bV_2, pC_sv _ _ bV_1, pC_sv _ _ bV_0]
theorem figC_ti (c : Ce) (x b p k : Int32) : figC (tiC c x b p) k = if k = 0 then figC c 0 + 1 else figC c k := by
  unfold tiC
  rw [figC_af _ _ bF_0, figC_sv _ _ bV_6, figC_sv _ _ bV_4, figC_sv _ _ bV_2, figC_sv _ _ bV_1, figC_sv _ _ bV_0, figC_sv _ _ bV_6, figC_sv _ _ bV_4, figC_sv _ _ bV_2, figC_sv _ _ bV_1, figC_sv _ _ bV_0]
theorem nw_eq {x : Int32} (hx : bM x = false) : ∀ j, j ≤ 4 → ∀ m, (∀ y u, bM y = false → bW u = false → oR (fold2 (nwF x) m j) y u = if y = x ∧ (∃ i, i < j ∧ u = 8 + nI i) then -1 else oR m y u) ∧ (∀ i, i < 11 → fold2 (nwF x) m j i = m i) := by
  intro j
  induction j with
  | zero =>
    intro _ m
    rw [fold2_0]
    exact ⟨fun y u _ _ => by rw [if_neg]; rintro ⟨-, i, hi, -⟩; omega, fun _ _ => rfl⟩
  | succ j ih =>
    intro hj m
    obtain ⟨h1, h2⟩ := ih (by omega) m
    rw [fold2_s]
    have hW := bW_8 (bS_n (show j < 4 by omega))
    unfold nwF at h1 h2 ⊢
    refine ⟨fun y u hy hu => ?_, fun i hi => by rw [up_lo _ _ hx hW hi]; exact h2 i hi⟩
    rw [oR_up _ _ hx hW hy hu, h1 y u hy hu]
    by_cases q : y = x ∧ u = 8 + nI j
    · rw [if_pos q, if_pos ⟨q.1, j, by omega, q.2⟩]
    · rw [if_neg q]
      by_cases q2 : y = x ∧ ∃ i, i < j ∧ u = 8 + nI i
      · obtain ⟨a1, i, a2, a3⟩ := q2
        rw [if_pos ⟨a1, i, a2, a3⟩, if_pos ⟨a1, i, by omega, a3⟩]
      · rw [if_neg q2, if_neg]
        rintro ⟨a1, i, a2, a3⟩
        by_cases hin : i = j
        · subst hin
          exact q ⟨a1, a3⟩
        · exact q2 ⟨a1, i, by omega, a3⟩
theorem bW_2' : bW 2 = false := by decide
theorem nwR_lo {x : Int32} (b p : Int32) (hx : bM x = false) (m : Re) {i : Nat} (hi : i < 11) : nwR m x b p i = m i := by
  obtain ⟨h1, h2⟩ := nw_eq hx 4 (Nat.le_refl _) (upR (upR (upR (zeR m x) x 0 1) x 1 b) x 2 p)
  show fold2 (nwF x) _ 4 i = m i
  rw [h2 i hi, up_lo _ _ hx bW_2 hi, up_lo _ _ hx bW_1 hi, up_lo _ _ hx bW_0 hi]
  exact (zeR_eq hx m).2 i hi
theorem nwR_ne {x : Int32} (b p : Int32) (hx : bM x = false) (m : Re) {y u : Int32} (hy : bM y = false) (hu : bW u = false) (hyx : ¬ y = x) : oR (nwR m x b p) y u = oR m y u := by
  obtain ⟨h1, h2⟩ := nw_eq hx 4 (Nat.le_refl _) (upR (upR (upR (zeR m x) x 0 1) x 1 b) x 2 p)
  show oR (fold2 (nwF x) _ 4) y u = _
  rw [h1 y u hy hu, if_neg (fun q => hyx q.1), oR_up _ _ hx bW_2 hy hu, if_neg (fun q => hyx q.1), oR_up _ _ hx bW_1 hy hu, if_neg (fun q => hyx q.1), oR_up _ _ hx bW_0 hy hu, if_neg (fun q => hyx q.1), (zeR_eq hx m).1 y u hy hu, if_neg hyx]
theorem nwR_8 {x : Int32} (b p : Int32) (hx : bM x = false) (m : Re) {i : Nat} (hi : i < 4) : oR (nwR m x b p) x (8 + nI i) = -1 := by
  obtain ⟨h1, h2⟩ := nw_eq hx 4 (Nat.le_refl _) (upR (upR (upR (zeR m x) x 0 1) x 1 b) x 2 p)
  show oR (fold2 (nwF x) _ 4) x _ = _
  rw [h1 x _ hx (bW_8 (bS_n hi)), if_pos ⟨rfl, i, hi, rfl⟩]
theorem nwR_v {x : Int32} (b p : Int32) (hx : bM x = false) (m : Re) {i : Nat} (hi : i < 8) : oR (nwR m x b p) x (nI i) = if i = 2 then p else if i = 1 then b else if i = 0 then 1 else 0 := by
  obtain ⟨h1, h2⟩ := nw_eq hx 4 (Nat.le_refl _) (upR (upR (upR (zeR m x) x 0 1) x 1 b) x 2 p)
  have hW := bW_n (show i < 12 by omega)
  show oR (fold2 (nwF x) _ 4) x (nI i) = _
  rw [h1 x _ hx hW, if_neg (by rintro ⟨-, k, hk, q⟩; exact n8 (bS_n hk) hi q), oR_up _ _ hx bW_2 hx hW, oR_up _ _ hx bW_1 hx hW, oR_up _ _ hx bW_0 hx hW, (zeR_eq hx m).1 x _ hx hW, if_pos rfl]
  have e2 : nI i = 2 ↔ i = 2 := ⟨fun q => (nI_eq (by omega) (by omega)).mp q, fun q => by rw [q]; rfl⟩
  have e1 : nI i = 1 ↔ i = 1 := ⟨fun q => (nI_eq (by omega) (by omega)).mp q, fun q => by rw [q]; rfl⟩
  have e0 : nI i = 0 ↔ i = 0 := ⟨fun q => (nI_eq (by omega) (by omega)).mp q, fun q => by rw [q]; rfl⟩
  simp only [true_and, e2, e1, e0]
theorem tiC_ok (h : Ok lo d c m) {x : Int32} (b p : Int32) (hx : bM x = false) (h0 : vC c x 0 = 0) : Ok lo d (tiC c x b p) (nwR m x b p) := by
  obtain ⟨i1, i2, i3, i4, i5, i6, i7, i8⟩ := h.1
  obtain ⟨r0, r1⟩ := h.2.1
  obtain ⟨z1, z2⟩ := i2 x hx h0
  have hn : ∀ y, ¬ y = x → ∀ u, vC (tiC c x b p) y u = vC c y u := fun y hy u => by
    rw [vC_ti c b p hx, if_neg (fun q => hy q.1), if_neg (fun q => hy q.1), if_neg (fun q => hy q.1), if_neg (fun q => hy q.1), if_neg (fun q => hy q.1)]
  have hp : ∀ y t, pC (tiC c x b p) y t = pC c y t := fun y t => pC_ti c x b p y t
  have x0 : vC (tiC c x b p) x 0 = 1 := by rw [vC_ti c b p hx]; simp
  have x1 : vC (tiC c x b p) x 1 = b := by rw [vC_ti c b p hx]; simp
  have x2 : vC (tiC c x b p) x 2 = p := by rw [vC_ti c b p hx]; simp
  have x3 : vC (tiC c x b p) x 3 = 0 := by rw [vC_ti c b p hx]; simp [z1]
  have x4 : vC (tiC c x b p) x 4 = -1 := by rw [vC_ti c b p hx]; simp
  have x5 : vC (tiC c x b p) x 5 = 0 := by rw [vC_ti c b p hx]; simp [z1]
  have x6 : vC (tiC c x b p) x 6 = -1 := by rw [vC_ti c b p hx]; simp
  have x7 : vC (tiC c x b p) x 7 = 0 := by rw [vC_ti c b p hx]; simp [z1]
  have x8 : vC (tiC c x b p) x 8 = 0 := by rw [vC_ti c b p hx]; simp [z1]
  have x9 : vC (tiC c x b p) x 9 = 0 := by rw [vC_ti c b p hx]; simp [z1]
  have htx : tot c x = 0 := (v5_0 (i5 x hx)).mp (z1 5)
  refine ⟨⟨fun y hy => ?_, fun y hy hz => ?_, fun y t => ?_, fun y hy hz => ?_, fun y hy => ?_, fun s hs y hy => Te_cg hp (i6 s hs y hy), ?_, ?_⟩, ⟨fun y hy => ?_, fun y hy hz => ?_⟩, RlF_eq h.2.2 (fun j hj => nwR_lo b p hx m hj) (fun k hk => by rw [figC_ti, if_neg hk])⟩
  · by_cases hyx : y = x
    · rw [hyx]
      exact Or.inr x0
    · rw [hn y hyx]
      exact i1 y hy
  · by_cases hyx : y = x
    · rw [hyx, x0] at hz
      cases hz
    · rw [hn y hyx] at hz
      obtain ⟨j1, j2⟩ := i2 y hy hz
      exact ⟨fun w => by rw [hn y hyx]; exact j1 w, fun t => by rw [hp]; exact j2 t⟩
  · rw [hp]
    rcases i3 y t with q | q | q
    · exact Or.inl q
    · exact Or.inr (Or.inl q)
    · refine Or.inr (Or.inr ⟨q.1, ?_⟩)
      by_cases hyx : pC c y t = x
      · rw [hyx]
        exact x0
      · rw [hn _ hyx]
        exact q.2
  · by_cases hyx : y = x
    · rw [hyx]
      exact Or.inl ⟨x3, x4⟩
    · rw [hn y hyx] at hz
      rw [hn y hyx, hn y hyx, figC_ti, if_neg (by decide)]
      exact i4 y hy hz
  · unfold Kc
    simp only [tot_cg hp, cnt_cg hp]
    by_cases hyx : y = x
    · rw [hyx, x5, x6, htx]
      refine ⟨rfl, fun _ _ => rfl, fun s hs q => ?_⟩
      have := cnt_tot (c := c) (y := x) hs
      omega
    · simp only [hn y hyx]
      exact i5 y hy
  · rw [figC_ti, if_pos rfl, i7]
    obtain ⟨j, hj, rfl⟩ := bM_of hx
    have hh := cN_upd (f := fun i => decide (vC c (nI i) 0 = 1)) (g := fun i => decide (vC (tiC c (nI j) b p) (nI i) 0 = 1)) hj (fun i hi hne => by
      rw [hn _ (fun q => hne ((nI_eq (by omega) (by omega)).mp q))])
    simp only [decide_eq_true_eq, h0, x0, if_true] at hh
    rw [if_neg (by decide)] at hh
    rw [nI_1]
    congr 1
    omega
  · rw [figC_ti, if_neg (by decide)]
    exact i8
  · by_cases hyx : y = x
    · rw [hyx, x0]
      exact nwR_v b p hx m (i := 0) (by omega)
    · rw [hn y hyx, nwR_ne b p hx m hy bW_0 hyx]
      exact r0 y hy
  · by_cases hyx : y = x
    · rw [hyx, x1, x2, x3, x7, x8, x9]
      refine ⟨nwR_v b p hx m (i := 1) (by omega), nwR_v b p hx m (i := 2) (by omega), nwR_v b p hx m (i := 3) (by omega), fun q => (by cases q), nwR_v b p hx m (i := 5) (by omega), nwR_v b p hx m (i := 6) (by omega), nwR_v b p hx m (i := 7) (by omega), fun s hs => ?_⟩
      obtain ⟨i, hi, rfl⟩ := bS_of hs
      rw [nwR_8 b p hx m hi, hp, z2]
    · simp only [hn y hyx] at hz ⊢
      rw [nwR_ne b p hx m hy bW_1 hyx, nwR_ne b p hx m hy bW_2 hyx, nwR_ne b p hx m hy bW_3 hyx, nwR_ne b p hx m hy bW_4 hyx, nwR_ne b p hx m hy bW_5 hyx, nwR_ne b p hx m hy bW_6 hyx, nwR_ne b p hx m hy bW_7 hyx]
      obtain ⟨b1, b2, b3, b4, b5, b6, b7, b8⟩ := r1 y hy hz
      exact ⟨b1, b2, b3, b4, b5, b6, b7, fun s hs => by rw [nwR_ne b p hx m hy (bW_8 hs) hyx, hp]; exact b8 s hs⟩
def St (c : Ce) (m : Re) : Prop := Ok (fun _ => 1) 0 c m
theorem op_join (h : St c m) {x : Int32} (b p : Int32) (hx : bM x = false) (hj : jR m x = false) : ∃ m', (aaO (nwR m x b p)).bind (fun m => if okA m x = true then some (sumTo (cnF m x) 4, m) else none) = some (csC (joC c x b p) x, m') ∧ St (joC c x b p) m' := by
  rw [jR_eq h.2.1 hx] at hj
  have h0 := unj h.1 hx (by simpa using hj)
  obtain ⟨m', h1, h2, h3⟩ := aoC_ok (tiC_ok h b p hx h0)
  have hg : Gd (joC c x b p) x := Or.inr (Or.inr ⟨hx, by
    show vC (aoC (tiC c x b p)) x 0 = 1
    rw [h3.1 x 0 (by decide) (by decide), vC_ti c b p hx]
    simp⟩)
  refine ⟨m', ?_, h2⟩
  have h2' : Ok (fun _ => 1) 0 (joC c x b p) m' := h2
  rw [h1]
  show (if okA m' x = true then some (sumTo (cnF m' x) 4, m') else none) = _
  rw [if_pos (okA_eq h2'.1 h2'.2.1 hg)]
  congr 2
  refine sumTo_congr (fun i hi => ?_)
  unfold cnF
  rw [(dR_eq h2'.1 h2'.2.1 (bS_n hi) hg).2]
theorem v5_co (h : Ok lo d c m) {x : Int32} (hx : bM x = false) : coR m x = vC c x 5 := (coR_eq h.1 h.2.1 (bMm1 hx)).trans (h.1.2.2.2.2.1 x hx).1.symm
theorem op_leave (h : St c m) {x : Int32} (hx : bM x = false) (hj : jR m x = true) : ∃ m', (aaO (goR m x)).map (fun m' => (coR m x, m')) = some (vC c x 5, m') ∧ St (leC c x) m' := by
  rw [jR_eq h.2.1 hx] at hj
  obtain ⟨h1, -, -⟩ := toC_ok h hx (by simpa using hj)
  obtain ⟨m', h3, h4, h5⟩ := aoC_ok h1
  refine ⟨m', ?_, h4⟩
  rw [h3, v5_co h hx]
  rfl
theorem op_repair (h : St c m) : ∃ m', (aaO m).map (fun m => (ciR m (-1) 0 + ciR m (-1) 1 + ciR m (-1) 2 + ciR m (-1) 3, m)) = some (reC (aoC c), m') ∧ St (aoC c) m' := by
  obtain ⟨m', h3, h4, h5⟩ := aoC_ok h
  refine ⟨m', ?_, h4⟩
  rw [h3]
  show some (_, m') = _
  rw [ciR_m1 h4.2.1 (by decide), ciR_m1 h4.2.1 (by decide), ciR_m1 h4.2.1 (by decide), ciR_m1 h4.2.1 (by decide)]
  unfold reC
  simp only [sumTo]
  rw [Int32.zero_add]
  rfl
theorem op_rejoin (h : St c m) {x s : Int32} (hx : bM x = false) (hs : bS s = false) (hj : jR m x = true) : ∃ m', (arO s 35 (upR m x (8 + s) (-1)) x 100).map (fun m => (oR m x (8 + s), m)) = some (pC (rjC c x s) x s, m') ∧ St (rjC c x s) m' := by
  rw [jR_eq h.2.1 hx] at hj
  have h0 : vC c x 0 = 1 := by simpa using hj
  have o1 := Ok_rm h hx h0 hs
  have v1 : vC (mvC c x s (-1)) x 0 = 1 := by rw [vC_mv_ne c _ hx hs x (by decide) (by decide)]; exact h0
  obtain ⟨m', h3, h4, h5⟩ := atC_ok hs o1 hx v1 (by rw [pC_mv c _ hx hs, if_pos ⟨rfl, rfl⟩])
  refine ⟨m', ?_, h4⟩
  rw [h3]
  show some (_, m') = some (pC (atC (mvC c x s (-1)) x s) x s, m')
  rw [(h4.2.1.2 x hx (by rw [h5.1 x 0 (by decide) (by decide)]; exact v1)).2.2.2.2.2.2.2 s hs]
end OPS

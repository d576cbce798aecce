/-! THE TWO SIDES: the questions have the same answers -/
section QA
variable {lo : Int32 → Nat} {d : Int32} {c : Ce} {m : Re}
theorem in_eq (o : Ok lo d c m) {x : Int32} (hx : bM x = false) (h0 : vC c x 0 = 1) : inR m x = vC c x 6 := by
  have hk := o.1.2.2.2.2.1 x hx
  have hci : ∀ j, j < 4 → (ciR m x (nI j) ≤ 0 ↔ cnt c x (nI j) = 0) := fun j hj => by
    have := cnt_le c x (nI j)
    rw [ciR_cnt o.1 o.2.1 (bS_n hj) (bMm1 hx)]
    exact nI_le0 (by omega)
  unfold inR
  by_cases ht : tot c x = 0
  · rw [hk.2.1 ht h0]
    have : ∀ j, j ≤ 4 → foldTo (inF m x) (-1) j = -1 := by
      intro j
      induction j with
      | zero => exact fun _ => rfl
      | succ j ih =>
        intro hj
        rw [foldTo, ih (by omega), inF, if_pos]
        have := cnt_tot (c := c) (y := x) (bS_n (show j < 4 by omega))
        exact (hci j (by omega)).mpr (by omega)
    exact this 4 (Nat.le_refl _)
  · have hex : ∃ i, i < 4 ∧ ¬ cnt c x (nI i) = 0 := by
      by_cases q0 : cnt c x (nI 0) = 0
      · by_cases q1 : cnt c x (nI 1) = 0
        · by_cases q2 : cnt c x (nI 2) = 0
          · refine ⟨3, by omega, fun q3 => ht ?_⟩
            unfold tot
            rw [show (0 : Int32) = nI 0 from rfl, show (1 : Int32) = nI 1 from rfl, show (2 : Int32) = nI 2 from rfl, show (3 : Int32) = nI 3 from rfl, q0, q1, q2, q3]
          · exact ⟨2, by omega, q2⟩
        · exact ⟨1, by omega, q1⟩
      · exact ⟨0, by omega, q0⟩
    obtain ⟨i, hi, hc⟩ := hex
    have h6 := hk.2.2 _ (bS_n hi) hc
    rw [h6]
    have : ∀ j, j ≤ 4 → foldTo (inF m x) (-1) j = if i < j then nI i else -1 := by
      intro j
      induction j with
      | zero => exact fun _ => rfl
      | succ j ih =>
        intro hj
        rw [foldTo, ih (by omega), inF]
        by_cases hij : i = j
        · subst hij
          rw [if_neg (fun q => hc ((hci i hi).mp q)), if_pos (by omega)]
        · have hne : ¬ nI j = nI i := fun q => hij ((nI_eq (by omega) (by omega)).mp q).symm
          rw [if_pos ((hci j (by omega)).mpr (cnt_other hk (bS_n hi) (bS_n (by omega)) hne (Or.inr h6)))]
          by_cases hl : i < j
          · rw [if_pos hl, if_pos (by omega)]
          · rw [if_neg hl, if_neg (by omega)]
    rw [this 4 (Nat.le_refl _), if_pos hi]
theorem mo_eq (o : Ok lo d c m) {x w : Int32} (hx : bM x = false) (hw : bR w 0 9 = false) : moR m x w = vC c x w := by
  obtain ⟨j, hj, rfl⟩ := bR_of (n := 9) (by omega) hw
  unfold moR
  rw [jR_eq o.2.1 hx]
  by_cases h0 : vC c x 0 = 1
  · simp only [h0, decide_true, Bool.true_eq_false, if_false]
    obtain ⟨b1, b2, b3, b4, b5, b6, b7, b8⟩ := o.2.1.2 x hx h0
    have hh : j = 0 ∨ j = 1 ∨ j = 2 ∨ j = 3 ∨ j = 4 ∨ j = 5 ∨ j = 6 ∨ j = 7 ∨ j = 8 ∨ j = 9 := by omega
    rcases hh with rfl | rfl | rfl | rfl | rfl | rfl | rfl | rfl | rfl | rfl
    · exact o.2.1.1 x hx
    · exact b1
    · exact b2
    · exact b3
    · rw [if_pos (by decide), b3]
      show _ = vC c x 4
      rcases o.1.2.2.2.1 x hx h0 with q | ⟨q, -⟩
      · rw [if_neg (by rw [q.1]; decide), q.2]
      · rw [if_pos q, b4 q]
    · rw [if_neg (by decide), if_pos (by decide)]
      exact v5_co o hx
    · rw [if_neg (by decide), if_neg (by decide), if_pos (by decide)]
      exact in_eq o hx h0
    · exact b5
    · exact b6
    · exact b7
  · simp only [h0, decide_false, if_true]
    exact ((o.1.2.1 x hx (unj o.1 hx h0)).1 _).symm
theorem pa_eq (o : Ok lo d c m) {x s : Int32} (hx : bM x = false) (h0 : vC c x 0 = 1) (hs : bS s = false) : oR m x (8 + s) = pC c x s := (o.2.1.2 x hx h0).2.2.2.2.2.2.2 s hs
theorem ca_eq (o : Ok lo d c m) {a s : Int32} (i : Int32) (ha : ¬ a = -1) (hs : bS s = false) : crGo m a s 32 0 i = caC c a s i := by
  have : ∀ n x b, x + n ≤ 32 → crGo m a s n x (i - b) = caGo c a s i n x b := by
    intro n
    induction n with
    | zero => exact fun _ _ _ => rfl
    | succ n ih =>
      intro x b hx
      rw [crGo, caGo, icR_eq o.1 o.2.1 (bM_n (by omega)) hs ha]
      have e : i - b + -1 = i - (b + 1) := by
        simp only [Int32.sub_eq_add_neg]
        rw [Int32.add_assoc, Int32.neg_add, Int32.sub_eq_add_neg]
      by_cases hc : pC c (nI x) s = a
      · simp only [hc, decide_true, if_true]
        by_cases hb : b = i
        · rw [if_pos hb, if_pos (by rw [hb, Int32.sub_self])]
        · rw [if_neg hb, if_neg, e, ih (x + 1) (b + 1) (by omega)]
          intro q
          apply hb
          have := congrArg (· + b) q
          rw [Int32.sub_add_cancel, Int32.zero_add] at this
          exact this.symm
      · simp only [hc, decide_false, Bool.false_eq_true, if_false]
        exact ih (x + 1) b (by omega)
  have := this 32 0 0 (by omega)
  rw [Int32.sub_zero] at this
  exact this
theorem uC_unj (o : Ok lo d c m) {x a s : Int32} (hx : bM x = false) (h0 : ¬ vC c x 0 = 1) (hxa : ¬ x = a) (ha : ¬ a = -1) : uC c x a s = false := by
  have hp := (o.1.2.1 x hx (unj o.1 hx h0)).2 s
  unfold uC
  rw [uGo, if_neg hxa, if_neg (bM_ne100 hx), if_neg (bMm1 hx), hp, uGo, if_neg (Ne.symm ha), if_neg (by decide), if_pos rfl]
theorem so_eq (o : Ok lo d c m) {a s : Int32} (ha : bM a = false) (h0 : vC c a 0 = 1) (hs : bS s = false) : soR m a s = stC c a s := sumTo_congr (fun i hi => by
  have hM := bM_n hi
  unfold soF
  rw [jR_eq o.2.1 hM]
  by_cases hj : vC c (nI i) 0 = 1
  · simp only [hj, decide_true, Bool.true_eq_false, if_false]
    rw [uR_eq o.1 o.2.1 a hs (Or.inr (Or.inr ⟨hM, hj⟩))]
  · simp only [hj, decide_false, if_true]
    rw [uC_unj o hM hj (fun q => hj (by rw [q]; exact h0)) (bMm1 ha)]
    rfl)
theorem uGo_ch {x s : Int32} (hx : bM x = false) : ∀ n y, ¬ y = x → uGo c s x n y = true → ∃ z, bM z = false ∧ pC c z s = x := by
  intro n
  induction n with
  | zero => intro y _ h; cases h
  | succ n ih =>
    intro y hy h
    rw [uGo, if_neg hy] at h
    split at h
    · cases h
    · split at h
      · cases h
      · by_cases hp : pC c y s = x
        · refine ⟨y, ?_, hp⟩
          by_cases hb : bM y = false
          · exact hb
          · rw [pC_out (Or.inl (bMt hb))] at hp
            exact absurd hp.symm (bMm1 hx)
        · exact ih _ hp h
theorem uC_st (o : Ok lo d c m) {x y s : Int32} (hx : bM x = false) (hy : ¬ y = x) (h : uC c y x s = true) : bS s = false ∧ vC c x 6 = s := by
  obtain ⟨z, hz, hp⟩ := uGo_ch hx 33 y hy h
  have hs : bS s = false := by
    by_cases hs : bS s = false
    · exact hs
    · rw [pC_out (Or.inr (bSt hs))] at hp
      exact absurd hp.symm (bMm1 hx)
  have := cnt_pos hz hp
  exact ⟨hs, (o.1.2.2.2.2.1 x hx).2.2 s hs (by omega)⟩
theorem gGo_f {x s : Int32} (hx : bM x = false) (h3 : vC c x 3 = 1) : ∀ n y, uGo c s x n y = true → gGo c s n y = false := by
  intro n
  induction n with
  | zero => intro y _; rfl
  | succ n ih =>
    intro y h
    rw [uGo] at h
    rw [gGo]
    by_cases hy : y = x
    · rw [hy, if_neg (bM_ne100 hx), if_neg (bMm1 hx), if_pos h3]
    · rw [if_neg hy] at h
      split at h
      · cases h
      · next h1 =>
        split at h
        · cases h
        · next h2 =>
          rw [if_neg h1, if_neg h2]
          split
          · rfl
          · exact ih _ h
theorem gC_f {y s : Int32} (hy : bM y = false) (h3 : vC c y 3 = 1) : gC c y s = false := by
  unfold gC
  rw [gGo, if_neg (bM_ne100 hy), if_neg (bMm1 hy), if_pos h3]
theorem prR_n (o : Ok lo d c m) {y : Int32} (hg : Gd c y) : prR m y (-1) = nI (cN (fun i => gC c y (nI i)) 4) := sumTo_cN _ _ 4 (fun i hi => by
  rw [gtR_eq1 o.1 o.2.1 (bS_n hi) hg]
  rfl)
theorem prR_x (o : Ok lo d c m) {y x : Int32} (hg : Gd c y) (hx : bM x = false) : prR m y x = nI (cN (fun i => gC c y (nI i) && !uC c y x (nI i)) 4) := sumTo_cN _ _ 4 (fun i hi => by
  rw [gtR_eq o.1 o.2.1 (bS_n hi) hg hx]
  rfl)
theorem ho_eq (o : Ok lo d c m) {x : Int32} (hx : bM x = false) (h0 : vC c x 0 = 1) : hoR m x = haC c x := by
  unfold hoR
  rw [(o.2.1.2 x hx h0).2.2.1]
  by_cases hf : vC c x 3 = 1
  · rw [if_pos hf]
    unfold haC
    refine Eq.symm ((sumTo_cN (fun _ => false) _ 32 (fun i _ => ?_)).trans (by rw [cN_zero (fun _ _ => rfl)]; rfl))
    by_cases hi : nI i = x
    · simp [hi]
    · rw [if_neg hi]
      by_cases hu : uC c (nI i) x (vC c x 6) = false
      · simp [hu]
      · rw [if_neg hu]
        simp only [Bool.not_eq_false] at hu
        rw [if_pos (show gC c (nI i) (vC c x 6) = false from gGo_f hx hf 33 _ hu)]
        rfl
  · rw [if_neg hf]
    refine sumTo_congr (fun i hi => ?_)
    have hM := bM_n hi
    unfold hoF
    by_cases hix : nI i = x
    · rw [if_pos hix, if_pos hix]
    · rw [if_neg hix, if_neg hix, jR_eq o.2.1 hM]
      by_cases hj : vC c (nI i) 0 = 1
      · simp only [hj, decide_true, Bool.true_eq_false, if_false]
        have hg : Gd c (nI i) := Or.inr (Or.inr ⟨hM, hj⟩)
        rw [(o.2.1.2 _ hM hj).2.2.1]
        by_cases h3 : vC c (nI i) 3 = 0
        · rw [if_neg (fun q => q h3), prR_n o hg, prR_x o hg hx]
          have l1 := cN_le (fun k => gC c (nI i) (nI k)) 4
          have l2 := cN_le (fun k => gC c (nI i) (nI k) && !uC c (nI i) x (nI k)) 4
          have hle := nI_leI (a := cN (fun k => gC c (nI i) (nI k)) 4) (b := cN (fun k => gC c (nI i) (nI k) && !uC c (nI i) x (nI k)) 4) (by omega) (by omega)
          by_cases hs : bS (vC c x 6) = false
          · obtain ⟨k, hk, hk6⟩ := bS_of hs
            have hup := cN_upd (f := fun t => gC c (nI i) (nI t)) (g := fun t => gC c (nI i) (nI t) && !uC c (nI i) x (nI t)) hk (fun t ht htk => by
              have : uC c (nI i) x (nI t) = false := by
                by_cases q : uC c (nI i) x (nI t) = false
                · exact q
                · simp only [Bool.not_eq_false] at q
                  have := (uC_st o hx hix q).2
                  rw [hk6] at this
                  exact absurd ((nI_eq (by omega) (by omega)).mp this).symm htk
              simp [this])
            rw [hk6]
            cases hu : uC c (nI i) x (nI k) <;> cases hgc : gC c (nI i) (nI k) <;> simp [hu, hgc] at hup
            · rw [if_pos (hle.mpr (by omega)), if_pos rfl]
            · rw [if_pos (hle.mpr (by omega)), if_pos rfl]
            · rw [if_pos (hle.mpr (by omega)), if_neg (by decide), if_pos rfl]
            · rw [if_neg (fun q => by have := hle.mp q; omega), if_neg (by decide), if_neg (by decide)]
          · have hu : ∀ s, uC c (nI i) x s = false := fun s => by
              by_cases q : uC c (nI i) x s = false
              · exact q
              · simp only [Bool.not_eq_false] at q
                obtain ⟨a1, a2⟩ := uC_st o hx hix q
                rw [a2] at hs
                exact absurd a1 hs
            rw [if_pos (hle.mpr (by
              rw [cN_congr (f := fun k => gC c (nI i) (nI k)) (g := fun k => gC c (nI i) (nI k) && !uC c (nI i) x (nI k)) (fun k _ => by simp [hu])]
              exact Nat.le_refl _)), if_pos (hu _)]
        · rw [if_pos h3]
          have := gC_f (c := c) (s := vC c x 6) hM ((f01 o.1 hM hj).resolve_left h3)
          rw [this]
          split <;> rfl
      · simp only [hj, decide_false, if_true]
        rw [if_pos (uC_unj o hM hj hix (bMm1 hx))]
theorem dC_unj (o : Ok lo d c m) {x : Int32} (s : Int32) (hx : bM x = false) (h0 : ¬ vC c x 0 = 1) : dC c x s = -1 := by
  have h1 : en c s (-1) 1 x := ⟨hx, (o.1.2.1 x hx (unj o.1 hx h0)).2 s⟩
  rw [dC_en (Or.inr rfl) h1, if_neg (by decide)]
theorem gd_fold (o : Ok lo d c m) {s : Int32} (hs : bS s = false) : ∀ n, n ≤ 32 → ∃ q, q ≤ 32 ∧ foldTo (gdF c s) 0 n = nI q ∧ foldTo (dpF m s) 0 n = nI q := by
  intro n
  induction n with
  | zero => exact fun _ => ⟨0, by omega, rfl, rfl⟩
  | succ n ih =>
    intro hn
    obtain ⟨q, q1, q2, q3⟩ := ih (by omega)
    have hM := bM_n (show n < 32 by omega)
    rw [foldTo, foldTo, q2, q3]
    unfold gdF dpF
    rw [jR_eq o.2.1 hM]
    have hm1 : ¬ nI q < (-1 : Int32) := fun h => by
      rw [Int32.lt_iff_toInt_lt, nI_toInt (by omega)] at h
      have : (-1 : Int32).toInt = -1 := rfl
      omega
    by_cases hj : vC c (nI n) 0 = 1
    · simp only [hj, decide_true, Bool.true_eq_false, if_false]
      have hg : Gd c (nI n) := Or.inr (Or.inr ⟨hM, hj⟩)
      rw [(dR_eq o.1 o.2.1 hs hg).2]
      obtain ⟨k, e, he, h⟩ := Gd_Te o.1 hs hg
      have hk := en_le he h
      rw [dC_en he h]
      rcases he with rfl | rfl
      · rw [if_pos rfl]
        by_cases hlt : nI q < nI k
        · rw [if_pos hlt, if_neg (Int32.not_le.mpr hlt)]
          exact ⟨k, hk, rfl, rfl⟩
        · rw [if_neg hlt, if_pos (Int32.not_lt.mp hlt)]
          exact ⟨q, q1, rfl, rfl⟩
      · simp only [show ¬ ((-1 : Int32) = 100) by decide, if_false]
        rw [if_neg hm1, if_pos (Int32.not_lt.mp hm1)]
        exact ⟨q, q1, rfl, rfl⟩
    · simp only [hj, decide_false, if_true]
      rw [dC_unj o s hM hj, if_neg hm1]
      exact ⟨q, q1, rfl, rfl⟩
theorem str_eq (o : Ok lo d c m) {s w : Int32} (hs : bS s = false) : strR m s w = siC c s w := by
  unfold strR siC
  by_cases w0 : w = 0
  · rw [if_pos w0, if_pos w0]
    refine sumTo_congr (fun i hi => ?_)
    have hM := bM_n hi
    unfold snF
    rw [jR_eq o.2.1 hM]
    by_cases hj : vC c (nI i) 0 = 1
    · simp only [hj, decide_true, Bool.true_eq_false, if_false]
      rw [(dR_eq o.1 o.2.1 hs (Or.inr (Or.inr ⟨hM, hj⟩))).2]
    · simp only [hj, decide_false, if_true]
      rw [dC_unj o s hM hj, if_pos rfl]
  · rw [if_neg w0, if_neg w0]
    by_cases w1 : w = 1
    · rw [if_pos w1, if_pos w1]
      exact ciR_m1 o.2.1 hs
    · rw [if_neg w1, if_neg w1]
      by_cases w2 : w = 2
      · rw [if_pos w2, if_pos w2]
        obtain ⟨q, -, q2, q3⟩ := gd_fold o hs 32 (Nat.le_refl _)
        exact q3.trans q2.symm
      · rw [if_neg w2, if_neg w2]
        by_cases w3 : w = 3
        · rw [if_pos w3, if_pos w3]
          exact ciR_eq o.1 o.2.1 hs (by decide)
        · rw [if_neg w3, if_neg w3]
          by_cases w4 : w = 4
          · rw [if_pos w4, if_pos w4]
            refine sumTo_congr (fun i hi => ?_)
            have hM := bM_n hi
            unfold roF
            rw [jR_eq o.2.1 hM]
            by_cases hj : vC c (nI i) 0 = 1
            · simp only [hj, decide_true, Bool.true_eq_false, if_false]
              rw [rmR_eq o.1 o.2.1 o.2.2.1 hs (Or.inr ⟨hM, hj⟩)]
              cases rmC c (nI i) s <;> rfl
            · simp only [hj, decide_false, if_true]
              rw [rmC_unj o.1 s hM hj]
              rfl
          · rw [if_neg w4, if_neg w4]
            refine sumTo_congr (fun i hi => ?_)
            have hM := bM_n hi
            have hk := o.1.2.2.2.2.1 _ hM
            have ht := tot_le c (nI i)
            have hc := cnt_le c (nI i) s
            unfold nnF
            rw [jR_eq o.2.1 hM]
            by_cases hj : vC c (nI i) 0 = 1
            · simp only [hj, decide_true, Bool.true_eq_false, if_false]
              rw [ciR_cnt o.1 o.2.1 hs (bMm1 hM), hk.1]
              have e1 := nI_le0 (n := cnt c (nI i) s) (by omega)
              have e2 := nI_le0 (n := tot c (nI i)) (by omega)
              have e3 := cnt_tot (c := c) (y := nI i) hs
              by_cases hcs : cnt c (nI i) s = 0
              · rw [if_pos (e1.mpr hcs)]
                by_cases htt : tot c (nI i) = 0
                · rw [if_pos (e2.mpr htt)]
                · rw [if_neg (fun q => htt (e2.mp q)), if_neg (fun q => htt ((tot_one hk hs q).trans hcs))]
              · rw [if_neg (fun q => hcs (e1.mp q)), if_neg (fun q => by have := e2.mp q; omega), if_pos (hk.2.2 s hs hcs)]
            · simp only [hj, decide_false, if_true]
              have := (o.1.2.1 _ hM (unj o.1 hM hj)).1 5
              rw [this]
              rfl
theorem ct_eq (o : Ok lo 0 c m) {w : Int32} (hw : bR w 0 7 = false) : ctR m w = figC c w := by
  obtain ⟨j, hj, rfl⟩ := bR_of (n := 7) (by omega) hw
  obtain ⟨f0, f1, f2, f4, f5, f6, f7, f8, f9, f10⟩ := o.2.2
  unfold ctR
  have hh : j = 0 ∨ j = 1 ∨ j = 2 ∨ j = 3 ∨ j = 4 ∨ j = 5 ∨ j = 6 ∨ j = 7 := by omega
  rcases hh with rfl | rfl | rfl | rfl | rfl | rfl | rfl | rfl
  · rw [if_pos (by decide)]
    refine (sumTo_cN _ _ 32 (fun i hi => ?_)).trans o.1.2.2.2.2.2.2.1.symm
    unfold ctF
    rw [o.2.1.1 _ (bM_n hi)]
    rcases o.1.1 _ (bM_n hi) with q | q <;> simp [q]
  · exact f4
  · exact f5
  · exact f6
  · exact f7
  · exact f8.trans (Int32.add_zero _)
  · exact f9
  · exact f10
theorem fold2_congr {σ : Type} {F G : Nat → σ → σ} {n : Nat} (h : ∀ i, i < n → ∀ a, F i a = G i a) (a : σ) : fold2 F a n = fold2 G a n := by
  induction n with
  | zero => rw [fold2_0, fold2_0]
  | succ n ih => rw [fold2_s, fold2_s, ih (fun i hi => h i (by omega)), h n (by omega)]
theorem mm_eq (o : Ok lo d c m) {x : Int32} (hx : bM x = false) (h : Int64) : mmR m h x = mmC c h x := by
  have eA : fold2 (maR m x) h 10 = fold2 (mmA c x) h 10 := fold2_congr (fun i hi a => by
    unfold maR mmA
    rw [mo_eq o hx (show bR (nI i) 0 9 = false from bR_n (n := 9) (by omega) (by omega))]) h
  unfold mmR mmC
  rw [eA, jR_eq o.2.1 hx, jnC]
  by_cases h0 : vC c x 0 = 1
  · simp only [h0, decide_true, if_true]
    have hg : Gd c x := Or.inr (Or.inr ⟨hx, h0⟩)
    rw [ho_eq o hx h0, prR_eq o hg]
    refine fold2_congr (fun i hi a => ?_) _
    have hS := bS_n hi
    unfold mbR mmB
    rw [pa_eq o hx h0 hS, (dR_eq o.1 o.2.1 hS hg).2, so_eq o hx h0 hS, rmR_eq o.1 o.2.1 o.2.2.1 hS (Or.inr ⟨hx, h0⟩)]
  · simp only [h0, decide_false, Bool.false_eq_true, if_false]
theorem di_eq (o : Ok lo 0 c m) (n : Int32) : diR n m = diC n c := by
  have e0 : d0R n m = dg0 n c := by
    unfold d0R dg0
    rw [o.2.2.1, o.2.2.2.1, o.2.2.2.2.1]
  have e1 : ∀ h, fold2 (daR m) h 32 = fold2 (dgA c) h 32 := fun h => fold2_congr (fun i hi a => mm_eq o (bM_n hi) a) h
  have e2 : ∀ h, fold2 (ddR m) h 4 = fold2 (dgD c) h 4 := fun h => fold2_congr (fun i hi a => fold2_congr (fun k _ b => by
    unfold dbR dgB
    rw [str_eq o (bS_n hi)]) a) h
  have e3 : ∀ h, fold2 (deR m) h 8 = fold2 (dgE c) h 8 := fun h => fold2_congr (fun i hi a => by
    unfold deR dgE
    rw [ct_eq o (show bR (nI i) 0 7 = false from bR_n (n := 7) (by omega) (by omega))]) h
  unfold diR diC
  rw [e0, e1, e2, e3]
end QA

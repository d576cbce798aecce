/-! what the writers do to what the readers see -/
theorem bM_of {x : Int32} (h : bM x = false) : ∃ j : Nat, j < 32 ∧ x = nI j := by
  simp only [bM, Bool.or_eq_false_iff, decide_eq_false_iff_not, Decidable.not_not] at h
  exact k_ix (N := 32) (by decide) h.1 h.2
theorem bS_of {x : Int32} (h : bS x = false) : ∃ j : Nat, j < 4 ∧ x = nI j := by
  simp only [bS, Bool.or_eq_false_iff, decide_eq_false_iff_not, Decidable.not_not] at h
  exact k_ix (N := 4) (by decide) h.1 h.2
theorem bM_ne100 {x : Int32} (h : bM x = false) : ¬ x = 100 := by
  rintro rfl
  revert h
  decide
theorem bM_100 : bM 100 = true := by decide
theorem bR_of {w : Int32} {n : Nat} (hn : n + 1 < 2 ^ 31) (h : bR w 0 (nI n) = false) : ∃ j : Nat, j < n + 1 ∧ w = nI j := by
  simp only [bR, Bool.or_eq_false_iff, decide_eq_false_iff_not, Decidable.not_not] at h
  obtain ⟨h1, h2⟩ := h
  obtain ⟨j, hj, rfl⟩ := nI_of h1
  rw [nI_leI (by omega) (by omega)] at h2
  exact ⟨j, by omega, rfl⟩
def bV (w : Int32) : Bool := decide (w < 0) || decide (¬ w < 10)
def bF (k : Int32) : Bool := decide (k < 0) || decide (¬ k < 11)
theorem bV_of {w : Int32} (h : bV w = false) : ∃ j : Nat, j < 10 ∧ w = nI j := by
  simp only [bV, Bool.or_eq_false_iff, decide_eq_false_iff_not, Decidable.not_not] at h
  exact k_ix (N := 10) (by decide) h.1 h.2
theorem bF_of {w : Int32} (h : bF w = false) : ∃ j : Nat, j < 11 ∧ w = nI j := by
  simp only [bF, Bool.or_eq_false_iff, decide_eq_false_iff_not, Decidable.not_not] at h
  exact k_ix (N := 11) (by decide) h.1 h.2
theorem m32 (x : Int32) : 32 ≤ x ↔ ¬ x < 32 := Int32.not_lt.symm
theorem vC_in {c : Ce} {x w : Int32} (hx : bM x = false) (hw : bV w = false) : vC c x w = c (w * 32 + x).toNatClampNeg := by
  simp only [bM, bV, Bool.or_eq_false_iff, decide_eq_false_iff_not, Decidable.not_not] at hx hw
  unfold vC
  rw [if_neg]
  rintro (h | h | h | h)
  · exact hx.1 h
  · exact (m32 x).mp h hx.2
  · exact hw.1 h
  · exact h hw.2
theorem vC_out {c : Ce} {x w : Int32} (h : bM x = true ∨ bV w = true) : vC c x w = 0 := by
  simp only [bM, bV, Bool.or_eq_true, decide_eq_true_eq] at h
  unfold vC
  rw [if_pos]
  rcases h with (h | h) | (h | h)
  · exact Or.inl h
  · exact Or.inr (Or.inl ((m32 x).mpr h))
  · exact Or.inr (Or.inr (Or.inl h))
  · exact Or.inr (Or.inr (Or.inr h))
theorem pC_in {c : Ce} {x s : Int32} (hx : bM x = false) (hs : bS s = false) : pC c x s = c (320 + s * 32 + x).toNatClampNeg := by
  simp only [bM, bS, Bool.or_eq_false_iff, decide_eq_false_iff_not, Decidable.not_not] at hx hs
  unfold pC
  rw [if_neg]
  rintro (h | h | h | h)
  · exact hx.1 h
  · exact (m32 x).mp h hx.2
  · exact hs.1 h
  · exact h hs.2
theorem pC_out {c : Ce} {x s : Int32} (h : bM x = true ∨ bS s = true) : pC c x s = -1 := by
  simp only [bM, bS, Bool.or_eq_true, decide_eq_true_eq] at h
  unfold pC
  rw [if_pos]
  rcases h with (h | h) | (h | h)
  · exact Or.inl h
  · exact Or.inr (Or.inl ((m32 x).mpr h))
  · exact Or.inr (Or.inr (Or.inl h))
  · exact Or.inr (Or.inr (Or.inr h))
theorem figC_in {c : Ce} {k : Int32} (hk : bF k = false) : figC c k = c (448 + k).toNatClampNeg := by
  simp only [bF, Bool.or_eq_false_iff, decide_eq_false_iff_not, Decidable.not_not] at hk
  unfold figC
  rw [if_neg]
  rintro (h | h)
  · exact hk.1 h
  · exact h hk.2
theorem figC_out {c : Ce} {k : Int32} (hk : bF k = true) : figC c k = 0 := by
  simp only [bF, Bool.or_eq_true, decide_eq_true_eq] at hk
  unfold figC
  rw [if_pos hk]
theorem ix_v {i j : Nat} (hi : i < 32) (hj : j < 10) : (nI j * 32 + nI i).toNatClampNeg = j * 32 + i := by
  rw [show (32 : Int32) = nI 32 from rfl, pk_mul, nI_add, nI_clamp (by omega)]
theorem ix_p {i j : Nat} (hi : i < 32) (hj : j < 4) : (320 + nI j * 32 + nI i).toNatClampNeg = 320 + j * 32 + i := by
  rw [show (32 : Int32) = nI 32 from rfl, show (320 : Int32) = nI 320 from rfl, pk_mul, nI_add, nI_add, nI_clamp (by omega)]
theorem ix_f {j : Nat} (hj : j < 11) : (448 + nI j).toNatClampNeg = 448 + j := by
  rw [show (448 : Int32) = nI 448 from rfl, nI_add, nI_clamp (by omega)]
theorem bMt {x : Int32} (h : ¬ bM x = false) : bM x = true := by simpa using h
theorem bSt {x : Int32} (h : ¬ bS x = false) : bS x = true := by simpa using h
theorem bVt {x : Int32} (h : ¬ bV x = false) : bV x = true := by simpa using h
theorem bFt {x : Int32} (h : ¬ bF x = false) : bF x = true := by simpa using h
theorem vC_upd {c : Ce} {x w v : Int32} (hx : bM x = false) (hw : bV w = false) (y u : Int32) : vC (upd c (w * 32 + x).toNatClampNeg v) y u = if y = x ∧ u = w then v else vC c y u := by
  by_cases hy : bM y = false
  · by_cases hu : bV u = false
    · rw [vC_in hy hu, vC_in hy hu]
      obtain ⟨i, hi, rfl⟩ := bM_of hx
      obtain ⟨j, hj, rfl⟩ := bV_of hw
      obtain ⟨i', hi', rfl⟩ := bM_of hy
      obtain ⟨j', hj', rfl⟩ := bV_of hu
      rw [ix_v hi hj, ix_v hi' hj']
      by_cases h : i' = i ∧ j' = j
      · obtain ⟨rfl, rfl⟩ := h
        rw [if_pos ⟨rfl, rfl⟩]
        exact if_pos rfl
      · rw [if_neg (fun q => h ⟨(nI_eq (by omega) (by omega)).mp q.1, (nI_eq (by omega) (by omega)).mp q.2⟩)]
        exact if_neg (by omega)
    · rw [vC_out (Or.inr (bVt hu)), vC_out (Or.inr (bVt hu)), if_neg]
      rintro ⟨-, rfl⟩
      exact hu hw
  · rw [vC_out (Or.inl (bMt hy)), vC_out (Or.inl (bMt hy)), if_neg]
    rintro ⟨rfl, -⟩
    exact hy hx
theorem pC_updV {c : Ce} {x w v : Int32} (hx : bM x = false) (hw : bV w = false) (y t : Int32) : pC (upd c (w * 32 + x).toNatClampNeg v) y t = pC c y t := by
  by_cases hy : bM y = false
  · by_cases hu : bS t = false
    · rw [pC_in hy hu, pC_in hy hu]
      obtain ⟨i, hi, rfl⟩ := bM_of hx
      obtain ⟨j, hj, rfl⟩ := bV_of hw
      obtain ⟨i', hi', rfl⟩ := bM_of hy
      obtain ⟨j', hj', rfl⟩ := bS_of hu
      rw [ix_v hi hj, ix_p hi' hj']
      exact if_neg (by omega)
    · rw [pC_out (Or.inr (bSt hu)), pC_out (Or.inr (bSt hu))]
  · rw [pC_out (Or.inl (bMt hy)), pC_out (Or.inl (bMt hy))]
theorem figC_updV {c : Ce} {x w v : Int32} (hx : bM x = false) (hw : bV w = false) (k : Int32) : figC (upd c (w * 32 + x).toNatClampNeg v) k = figC c k := by
  by_cases hk : bF k = false
  · rw [figC_in hk, figC_in hk]
    obtain ⟨i, hi, rfl⟩ := bM_of hx
    obtain ⟨j, hj, rfl⟩ := bV_of hw
    obtain ⟨j', hj', rfl⟩ := bF_of hk
    rw [ix_v hi hj, ix_f hj']
    exact if_neg (by omega)
  · rw [figC_out (bFt hk), figC_out (bFt hk)]
theorem pC_upd {c : Ce} {x s v : Int32} (hx : bM x = false) (hs : bS s = false) (y t : Int32) : pC (upd c (320 + s * 32 + x).toNatClampNeg v) y t = if y = x ∧ t = s then v else pC c y t := by
  by_cases hy : bM y = false
  · by_cases hu : bS t = false
    · rw [pC_in hy hu, pC_in hy hu]
      obtain ⟨i, hi, rfl⟩ := bM_of hx
      obtain ⟨j, hj, rfl⟩ := bS_of hs
      obtain ⟨i', hi', rfl⟩ := bM_of hy
      obtain ⟨j', hj', rfl⟩ := bS_of hu
      rw [ix_p hi hj, ix_p hi' hj']
      by_cases h : i' = i ∧ j' = j
      · obtain ⟨rfl, rfl⟩ := h
        rw [if_pos ⟨rfl, rfl⟩]
        exact if_pos rfl
      · rw [if_neg (fun q => h ⟨(nI_eq (by omega) (by omega)).mp q.1, (nI_eq (by omega) (by omega)).mp q.2⟩)]
        exact if_neg (by omega)
    · rw [pC_out (Or.inr (bSt hu)), pC_out (Or.inr (bSt hu)), if_neg]
      rintro ⟨-, rfl⟩
      exact hu hs
  · rw [pC_out (Or.inl (bMt hy)), pC_out (Or.inl (bMt hy)), if_neg]
    rintro ⟨rfl, -⟩
    exact hy hx
theorem vC_updP {c : Ce} {x s v : Int32} (hx : bM x = false) (hs : bS s = false) (y u : Int32) : vC (upd c (320 + s * 32 + x).toNatClampNeg v) y u = vC c y u := by
  by_cases hy : bM y = false
  · by_cases hu : bV u = false
    · rw [vC_in hy hu, vC_in hy hu]
      obtain ⟨i, hi, rfl⟩ := bM_of hx
      obtain ⟨j, hj, rfl⟩ := bS_of hs
      obtain ⟨i', hi', rfl⟩ := bM_of hy
      obtain ⟨j', hj', rfl⟩ := bV_of hu
      rw [ix_p hi hj, ix_v hi' hj']
      exact if_neg (by omega)
    · rw [vC_out (Or.inr (bVt hu)), vC_out (Or.inr (bVt hu))]
  · rw [vC_out (Or.inl (bMt hy)), vC_out (Or.inl (bMt hy))]
theorem figC_updP {c : Ce} {x s v : Int32} (hx : bM x = false) (hs : bS s = false) (k : Int32) : figC (upd c (320 + s * 32 + x).toNatClampNeg v) k = figC c k := by
  by_cases hk : bF k = false
  · rw [figC_in hk, figC_in hk]
    obtain ⟨i, hi, rfl⟩ := bM_of hx
    obtain ⟨j, hj, rfl⟩ := bS_of hs
    obtain ⟨j', hj', rfl⟩ := bF_of hk
    rw [ix_p hi hj, ix_f hj']
    exact if_neg (by omega)
  · rw [figC_out (bFt hk), figC_out (bFt hk)]
theorem figC_upd {c : Ce} {k v : Int32} (hk : bF k = false) (t : Int32) : figC (upd c (448 + k).toNatClampNeg v) t = if t = k then v else figC c t := by
  by_cases ht : bF t = false
  · rw [figC_in ht, figC_in ht]
    obtain ⟨i, hi, rfl⟩ := bF_of hk
    obtain ⟨j, hj, rfl⟩ := bF_of ht
    rw [ix_f hi, ix_f hj]
    by_cases h : j = i
    · subst h
      rw [if_pos rfl]
      exact if_pos rfl
    · rw [if_neg (fun q => h ((nI_eq (by omega) (by omega)).mp q))]
      exact if_neg (by omega)
  · rw [figC_out (bFt ht), figC_out (bFt ht), if_neg]
    rintro rfl
    exact ht hk
theorem vC_updF {c : Ce} {k v : Int32} (hk : bF k = false) (y u : Int32) : vC (upd c (448 + k).toNatClampNeg v) y u = vC c y u := by
  by_cases hy : bM y = false
  · by_cases hu : bV u = false
    · rw [vC_in hy hu, vC_in hy hu]
      obtain ⟨i, hi, rfl⟩ := bF_of hk
      obtain ⟨i', hi', rfl⟩ := bM_of hy
      obtain ⟨j', hj', rfl⟩ := bV_of hu
      rw [ix_f hi, ix_v hi' hj']
      exact if_neg (by omega)
    · rw [vC_out (Or.inr (bVt hu)), vC_out (Or.inr (bVt hu))]
  · rw [vC_out (Or.inl (bMt hy)), vC_out (Or.inl (bMt hy))]
theorem pC_updF {c : Ce} {k v : Int32} (hk : bF k = false) (y t : Int32) : pC (upd c (448 + k).toNatClampNeg v) y t = pC c y t := by
  by_cases hy : bM y = false
  · by_cases hu : bS t = false
    · rw [pC_in hy hu, pC_in hy hu]
      obtain ⟨i, hi, rfl⟩ := bF_of hk
      obtain ⟨i', hi', rfl⟩ := bM_of hy
      obtain ⟨j', hj', rfl⟩ := bS_of hu
      rw [ix_f hi, ix_p hi' hj']
      exact if_neg (by omega)
    · rw [pC_out (Or.inr (bSt hu)), pC_out (Or.inr (bSt hu))]
  · rw [pC_out (Or.inl (bMt hy)), pC_out (Or.inl (bMt hy))]
theorem svC_in {c : Ce} {x w v : Int32} (hx : bM x = false) (hw : bV w = false) : svC c x w v = upd c (w * 32 + x).toNatClampNeg v := by
  simp only [bM, bV, Bool.or_eq_false_iff, decide_eq_false_iff_not, Decidable.not_not] at hx hw
  unfold svC
  rw [if_neg]
  rintro (h | h | h | h)
  · exact hx.1 h
  · exact (m32 x).mp h hx.2
  · exact hw.1 h
  · exact h hw.2
theorem svC_out {c : Ce} {x w v : Int32} (hx : bM x = true) : svC c x w v = c := by
  simp only [bM, Bool.or_eq_true, decide_eq_true_eq] at hx
  unfold svC
  rw [if_pos]
  rcases hx with h | h
  · exact Or.inl h
  · exact Or.inr (Or.inl ((m32 x).mpr h))
theorem vC_sv (c : Ce) {x w : Int32} (v : Int32) (hx : bM x = false) (hw : bV w = false) (y u : Int32) : vC (svC c x w v) y u = if y = x ∧ u = w then v else vC c y u := by
  rw [svC_in hx hw, vC_upd hx hw]
theorem vC_sv_ne (c : Ce) {x w : Int32} (v : Int32) (hw : bV w = false) (y : Int32) {u : Int32} (h : ¬ u = w) : vC (svC c x w v) y u = vC c y u := by
  by_cases hx : bM x = false
  · rw [vC_sv c v hx hw, if_neg (fun q => h q.2)]
  · rw [svC_out (bMt hx)]
theorem pC_sv (c : Ce) {x w : Int32} (v : Int32) (hw : bV w = false) (y t : Int32) : pC (svC c x w v) y t = pC c y t := by
  by_cases hx : bM x = false
  · rw [svC_in hx hw, pC_updV hx hw]
  · rw [svC_out (bMt hx)]
theorem figC_sv (c : Ce) {x w : Int32} (v : Int32) (hw : bV w = false) (k : Int32) : figC (svC c x w v) k = figC c k := by
  by_cases hx : bM x = false
  · rw [svC_in hx hw, figC_updV hx hw]
  · rw [svC_out (bMt hx)]
theorem sfC_in {c : Ce} {k v : Int32} (hk : bF k = false) : sfC c k v = upd c (448 + k).toNatClampNeg v := by
  simp only [bF, Bool.or_eq_false_iff, decide_eq_false_iff_not, Decidable.not_not] at hk
  unfold sfC
  rw [if_neg]
  rintro (h | h)
  · exact hk.1 h
  · exact h hk.2
theorem figC_sf (c : Ce) {k : Int32} (v : Int32) (hk : bF k = false) (t : Int32) : figC (sfC c k v) t = if t = k then v else figC c t := by
  rw [sfC_in hk, figC_upd hk]
theorem vC_sf (c : Ce) {k : Int32} (v : Int32) (hk : bF k = false) (y u : Int32) : vC (sfC c k v) y u = vC c y u := by
  rw [sfC_in hk, vC_updF hk]
theorem pC_sf (c : Ce) {k : Int32} (v : Int32) (hk : bF k = false) (y u : Int32) : pC (sfC c k v) y u = pC c y u := by
  rw [sfC_in hk, pC_updF hk]
theorem figC_af (c : Ce) {k : Int32} (v : Int32) (hk : bF k = false) (t : Int32) : figC (afC c k v) t = if t = k then figC c k + v else figC c t := figC_sf c _ hk t
theorem vC_af (c : Ce) {k : Int32} (v : Int32) (hk : bF k = false) (y u : Int32) : vC (afC c k v) y u = vC c y u := vC_sf c _ hk y u
theorem pC_af (c : Ce) {k : Int32} (v : Int32) (hk : bF k = false) (y u : Int32) : pC (afC c k v) y u = pC c y u := pC_sf c _ hk y u
theorem bV_5 : bV 5 = false := by decide
theorem bV_6 : bV 6 = false := by decide
theorem pC_ac (c : Ce) (p s d y t : Int32) : pC (acC c p s d) y t = pC c y t := by
  unfold acC
  rw [pC_sv _ _ bV_6, pC_sv _ _ bV_5]
theorem figC_ac (c : Ce) (p s d k : Int32) : figC (acC c p s d) k = figC c k := by
  unfold acC
  rw [figC_sv _ _ bV_6, figC_sv _ _ bV_5]
theorem vC_ac_ne (c : Ce) (p s d y : Int32) {u : Int32} (h5 : ¬ u = 5) (h6 : ¬ u = 6) : vC (acC c p s d) y u = vC c y u := by
  unfold acC
  rw [vC_sv_ne _ _ bV_6 _ h6, vC_sv_ne _ _ bV_5 _ h5]
theorem vC_ac5 (c : Ce) (p s d : Int32) {y : Int32} (hy : bM y = false) : vC (acC c p s d) y 5 = if p = y then vC c y 5 + d else vC c y 5 := by
  unfold acC
  rw [vC_sv_ne _ _ bV_6 _ (by decide)]
  by_cases hp : bM p = false
  · rw [vC_sv _ _ hp bV_5]
    by_cases h : p = y
    · subst h
      rw [if_pos ⟨rfl, rfl⟩, if_pos rfl]
    · rw [if_neg (fun q => h q.1.symm), if_neg h]
  · rw [svC_out (bMt hp), if_neg]
    rintro rfl
    exact hp hy
theorem vC_ac6 (c : Ce) (p s d : Int32) {y : Int32} (hy : bM y = false) : vC (acC c p s d) y 6 = if p = y then (if vC c y 5 + d = 0 then -1 else s) else vC c y 6 := by
  unfold acC
  by_cases hp : bM p = false
  · rw [vC_sv _ _ hp bV_6]
    by_cases h : p = y
    · subst h
      rw [if_pos ⟨rfl, rfl⟩, if_pos rfl]
    · rw [if_neg (fun q => h q.1.symm), if_neg h, vC_sv_ne _ _ bV_5 _ (by decide)]
  · rw [svC_out (bMt hp), svC_out (bMt hp), if_neg]
    rintro rfl
    exact hp hy
theorem mvC_in {c : Ce} {x s p : Int32} (hx : bM x = false) (hs : bS s = false) : mvC c x s p = acC (upd (acC c (pC c x s) s (-1)) (320 + s * 32 + x).toNatClampNeg p) p s 1 := by
  rw [pC_in hx hs]
  simp only [bM, bS, Bool.or_eq_false_iff, decide_eq_false_iff_not, Decidable.not_not] at hx hs
  unfold mvC
  rw [if_neg]
  rintro (h | h | h | h)
  · exact hx.1 h
  · exact (m32 x).mp h hx.2
  · exact hs.1 h
  · exact h hs.2
theorem pC_mv (c : Ce) {x s : Int32} (p : Int32) (hx : bM x = false) (hs : bS s = false) (y t : Int32) : pC (mvC c x s p) y t = if y = x ∧ t = s then p else pC c y t := by
  rw [mvC_in hx hs, pC_ac, pC_upd hx hs, pC_ac]
theorem figC_mv (c : Ce) {x s : Int32} (p : Int32) (hx : bM x = false) (hs : bS s = false) (k : Int32) : figC (mvC c x s p) k = figC c k := by
  rw [mvC_in hx hs, figC_ac, figC_updP hx hs, figC_ac]
theorem vC_mv_ne (c : Ce) {x s : Int32} (p : Int32) (hx : bM x = false) (hs : bS s = false) (y : Int32) {u : Int32} (h5 : ¬ u = 5) (h6 : ¬ u = 6) : vC (mvC c x s p) y u = vC c y u := by
  rw [mvC_in hx hs, vC_ac_ne _ _ _ _ _ h5 h6, vC_updP hx hs, vC_ac_ne _ _ _ _ _ h5 h6]
theorem vC_mv5 (c : Ce) {x s : Int32} (p : Int32) (hx : bM x = false) (hs : bS s = false) {y : Int32} (hy : bM y = false) : vC (mvC c x s p) y 5 = if p = y then (if pC c x s = y then vC c y 5 + -1 else vC c y 5) + 1 else (if pC c x s = y then vC c y 5 + -1 else vC c y 5) := by
  rw [mvC_in hx hs, vC_ac5 _ _ _ _ hy, vC_updP hx hs, vC_ac5 _ _ _ _ hy]
theorem vC_mv6 (c : Ce) {x s : Int32} (p : Int32) (hx : bM x = false) (hs : bS s = false) {y : Int32} (hy : bM y = false) : vC (mvC c x s p) y 6 = if p = y then (if (if pC c x s = y then vC c y 5 + -1 else vC c y 5) + 1 = 0 then -1 else s) else (if pC c x s = y then (if vC c y 5 + -1 = 0 then -1 else s) else vC c y 6) := by
  rw [mvC_in hx hs, vC_ac6 _ _ _ _ hy, vC_updP hx hs, vC_updP hx hs, vC_ac5 _ _ _ _ hy, vC_ac6 _ _ _ _ hy]

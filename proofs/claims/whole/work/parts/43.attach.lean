/-! THE TWO SIDES: how an orphan is attached -/
section AT
variable {lo : Int32 → Nat} {c : Ce} {m : Re}
theorem ch_j (iv : Iv lo c) {x a s : Int32} (hx : bM x = false) (ha : ¬ a = -1) (h : pC c x s = a) : vC c x 0 = 1 := by
  by_cases h0 : vC c x 0 = 1
  · exact h0
  · exact absurd (h.symm.trans ((iv.2.1 x hx (unj iv hx h0)).2 s)) ha
def Lc (c : Ce) (a s l : Int32) : Prop := l = -1 ∨ (bM l = false ∧ pC c l s = a)
theorem nIm1 {i : Nat} (h : i < 32) : ¬ nI i = -1 := bMm1 (bM_n h)
theorem lc_fold (iv : Iv lo c) (r : RlM c m) {a s : Int32} (hs : bS s = false) (ha : ¬ a = -1) : ∀ n, n ≤ 32 → foldTo (lrF m a s) (-1) n = foldTo (lcF c a s) (-1) n ∧ Lc c a s (foldTo (lcF c a s) (-1) n) := by
  intro n
  induction n with
  | zero => exact fun _ => ⟨rfl, Or.inl rfl⟩
  | succ n ih =>
    intro hn
    obtain ⟨h1, h2⟩ := ih (by omega)
    rw [foldTo, foldTo, h1]
    generalize foldTo (lcF c a s) (-1) n = l at h2 ⊢
    have hM := bM_n (show n < 32 by omega)
    unfold lrF lcF
    rw [icR_eq iv r hM hs ha]
    by_cases hc : pC c (nI n) s = a
    · simp only [hc, decide_true, if_true]
      have hj := ch_j iv hM ha hc
      rcases h2 with h2 | ⟨h2, h3⟩
      · simp only [if_pos h2]
        exact ⟨trivial, Or.inr ⟨hM, hc⟩⟩
      · simp only [if_neg (bMm1 h2)]
        rw [ahR_eq r s h2 (ch_j iv h2 ha h3) hM hj]
        split
        · exact ⟨rfl, Or.inr ⟨hM, hc⟩⟩
        · exact ⟨rfl, Or.inr ⟨h2, h3⟩⟩
    · simp only [hc, decide_false, Bool.false_eq_true, if_false]
      exact ⟨trivial, h2⟩
theorem lrR_eq (iv : Iv lo c) (r : RlM c m) {a s : Int32} (hs : bS s = false) (ha : ¬ a = -1) : lrR m a s = lcC c a s := (lc_fold iv r hs ha 32 (Nat.le_refl _)).1
theorem lcC_ch (c : Ce) (a s : Int32) : Lc c a s (lcC c a s) := by
  have : ∀ n, n ≤ 32 → Lc c a s (foldTo (lcF c a s) (-1) n) := by
    intro n
    induction n with
    | zero => exact fun _ => Or.inl rfl
    | succ n ih =>
      intro hn
      have h2 := ih (by omega)
      rw [foldTo]
      generalize foldTo (lcF c a s) (-1) n = l at h2 ⊢
      have hM := bM_n (show n < 32 by omega)
      unfold lcF
      split
      · next hc =>
        split
        · exact Or.inr ⟨hM, hc⟩
        · split
          · exact Or.inr ⟨hM, hc⟩
          · exact h2
      · exact h2
  exact this 32 (Nat.le_refl _)
theorem lcC_no {a s : Int32} (h : lcC c a s = -1) : cnt c a s = 0 := by
  have : ∀ n, n ≤ 32 → foldTo (lcF c a s) (-1) n = -1 → ∀ i, i < n → ¬ pC c (nI i) s = a := by
    intro n
    induction n with
    | zero => exact fun _ _ i hi => by omega
    | succ n ih =>
      intro hn h i hi
      rw [foldTo] at h
      have hM := nIm1 (show n < 32 by omega)
      unfold lcF at h
      by_cases hc : pC c (nI n) s = a
      · rw [if_pos hc] at h
        split at h
        · exact absurd h hM
        · split at h
          · exact absurd h hM
          · next h3 _ => exact absurd h h3
      · rw [if_neg hc] at h
        by_cases hin : i = n
        · subst hin
          exact hc
        · exact ih (by omega) h i (by omega)
  exact cN_zero (fun i hi => by simpa using this 32 (Nat.le_refl _) h i hi)
def Lf (c : Ce) (a s l : Int32) : Prop := l = -1 ∨ (bM l = false ∧ pC c l s = a ∧ cbC c l s = true)
theorem fi_fold (iv : Iv lo c) (r : RlM c m) {a s : Int32} (hs : bS s = false) (ha : ¬ a = -1) : ∀ n, n ≤ 32 → foldTo (firF m a s) (-1) n = foldTo (fiF c a s) (-1) n ∧ Lf c a s (foldTo (fiF c a s) (-1) n) := by
  intro n
  induction n with
  | zero => exact fun _ => ⟨rfl, Or.inl rfl⟩
  | succ n ih =>
    intro hn
    obtain ⟨h1, h2⟩ := ih (by omega)
    rw [foldTo, foldTo, h1]
    generalize foldTo (fiF c a s) (-1) n = l at h2 ⊢
    have hM := bM_n (show n < 32 by omega)
    unfold firF fiF
    rw [icR_eq iv r hM hs ha]
    by_cases hc : pC c (nI n) s = a
    · simp only [hc, decide_true, if_true]
      have hj := ch_j iv hM ha hc
      rw [cbR_eq iv r hM hj hs]
      by_cases hb : cbC c (nI n) s = false
      · rw [if_pos hb, if_pos hb]
        exact ⟨rfl, h2⟩
      · rw [if_neg hb, if_neg hb]
        simp only [Bool.not_eq_false] at hb
        rcases h2 with h2 | ⟨h2, h3, h4⟩
        · simp only [if_pos h2]
          exact ⟨trivial, Or.inr ⟨hM, hc, hb⟩⟩
        · simp only [if_neg (bMm1 h2)]
          rw [ahR_eq r s hM hj h2 (ch_j iv h2 ha h3)]
          split
          · exact ⟨rfl, Or.inr ⟨hM, hc, hb⟩⟩
          · exact ⟨rfl, Or.inr ⟨h2, h3, h4⟩⟩
    · simp only [hc, decide_false, Bool.false_eq_true, if_false]
      exact ⟨trivial, h2⟩
theorem firR_eq (iv : Iv lo c) (r : RlM c m) {a s : Int32} (hs : bS s = false) (ha : ¬ a = -1) : firR m a s = fiC c a s ∧ Lf c a s (fiC c a s) := fi_fold iv r hs ha 32 (Nat.le_refl _)
theorem en_orph {x s : Int32} (hx : bM x = false) (hp : pC c x s = -1) (j : Nat) : ¬ en c s 100 j x := fun h => by
  have h1 : en c s (-1) 1 x := ⟨hx, hp⟩
  have := (en_uniq (Or.inl rfl) (Or.inr rfl) h h1).2
  cases this
theorem uGo_orph {x s : Int32} (hx : bM x = false) (hp : pC c x s = -1) : ∀ {k n : Nat} {a : Int32}, en c s 100 k a → uGo c s x n a = false := by
  intro k
  induction k with
  | zero =>
    intro n a h
    cases h
    cases n with
    | zero => rfl
    | succ n => rw [uGo, if_neg (Ne.symm (bM_ne100 hx)), if_pos rfl]
  | succ k ih =>
    intro n a h
    cases n with
    | zero => rfl
    | succ n =>
      have : ¬ a = x := by
        rintro rfl
        exact en_orph hx hp _ h
      rw [uGo, if_neg this, if_neg (bM_ne100 h.1), if_neg (bMm1 h.1)]
      exact ih h.2
theorem dC_con (iv : Iv lo c) {x s : Int32} (hs : bS s = false) (hx : bM x = false) (h : ¬ dC c x s = -1) : ∃ k, en c s 100 k x := by
  obtain ⟨k, e, he, h1⟩ := iv.2.2.2.2.2.1 s hs x hx
  rcases he with rfl | rfl
  · exact ⟨k, h1⟩
  · exact absurd (dC_en (Or.inr rfl) h1) h
theorem rmC_con (iv : Iv lo c) {a s : Int32} (hs : bS s = false) (ha : bM a = false) (h : rmC c a s = true) : (∃ k, en c s 100 k a) ∧ cbC c a s = true := by
  unfold rmC at h
  rw [if_neg (bM_ne100 ha)] at h
  simp only [Bool.and_eq_true, decide_eq_true_eq] at h
  exact ⟨dC_con iv hs ha h.2, h.1.1⟩
theorem nr_fold (iv : Iv lo c) (r : RlM c m) (hm : m 0 = figC c 9) {x s : Int32} (hs : bS s = false) (hx : bM x = false) (hp : pC c x s = -1) : ∀ n, n ≤ 32 → (fold2 (nrF m x s) (-1, 0) n).1 = (fold2 (smF c s) (-1, -1) n).1 ∧ ((fold2 (smF c s) (-1, -1) n).1 = -1 ∨ ((fold2 (nrF m x s) (-1, 0) n).2 = (fold2 (smF c s) (-1, -1) n).2 ∧ bM (fold2 (smF c s) (-1, -1) n).1 = false ∧ vC c (fold2 (smF c s) (-1, -1) n).1 0 = 1 ∧ rmC c (fold2 (smF c s) (-1, -1) n).1 s = true)) := by
  intro n
  induction n with
  | zero => exact fun _ => ⟨rfl, Or.inl rfl⟩
  | succ n ih =>
    intro hn
    have h := ih (by omega)
    rw [fold2_s, fold2_s]
    generalize fold2 (nrF m x s) (-1, 0) n = q at h ⊢
    generalize fold2 (smF c s) (-1, -1) n = q' at h ⊢
    obtain ⟨h1, h2⟩ := h
    have hM := bM_n (show n < 32 by omega)
    unfold nrF smF
    rw [jR_eq r hM]
    by_cases h0 : vC c (nI n) 0 = 1
    · simp only [h0, decide_true, Bool.true_eq_false, if_false]
      rw [rmR_eq iv r hm hs (Or.inr ⟨hM, h0⟩)]
      by_cases hr : rmC c (nI n) s = false
      · rw [if_pos hr, if_pos hr]
        exact ⟨h1, h2⟩
      · rw [if_neg hr, if_neg hr]
        simp only [Bool.not_eq_false] at hr
        obtain ⟨⟨k, hk⟩, -⟩ := rmC_con iv hs hM hr
        have hg : Gd c (nI n) := Or.inr (Or.inr ⟨hM, h0⟩)
        rw [uR_eq iv r x hs hg, show uC c (nI n) x s = false from uGo_orph hx hp hk, if_pos rfl, (dR_eq iv r hs hg).2, h1]
        by_cases hq : q'.1 = -1
        · rw [if_pos hq, if_pos hq]
          exact ⟨rfl, Or.inr ⟨rfl, hM, h0, hr⟩⟩
        · obtain ⟨h3, h4, h5, h6⟩ := h2.resolve_left hq
          rw [if_neg hq, if_neg hq, h3]
          split
          · exact ⟨h1, Or.inr ⟨h3, h4, h5, h6⟩⟩
          · exact ⟨rfl, Or.inr ⟨rfl, hM, h0, hr⟩⟩
    · simp only [h0, decide_false, if_true]
      rw [if_pos (rmC_unj iv s hM h0)]
      exact ⟨h1, h2⟩
theorem nrR_eq (iv : Iv lo c) (r : RlM c m) (hm : m 0 = figC c 9) {x s : Int32} (hs : bS s = false) (hx : bM x = false) (hp : pC c x s = -1) : nrR m x s = smC c s ∧ (smC c s = -1 ∨ (bM (smC c s) = false ∧ vC c (smC c s) 0 = 1 ∧ rmC c (smC c s) s = true)) := by
  obtain ⟨h1, h2⟩ := nr_fold iv r hm hs hx hp 32 (Nat.le_refl _)
  exact ⟨h1, h2.imp id And.right⟩
/-- what an attachment leaves as it is -/
def Pv (c c' : Ce) : Prop := (∀ y u, ¬ u = 5 → ¬ u = 6 → vC c' y u = vC c y u) ∧ (∀ k, ¬ k = 6 → ¬ k = 7 → figC c' k = figC c k)
theorem Pv_r (c : Ce) : Pv c c := ⟨fun _ _ _ _ => rfl, fun _ _ _ => rfl⟩
theorem Pv_t {a b c : Ce} (h : Pv a b) (g : Pv b c) : Pv a c := ⟨fun y u h5 h6 => (g.1 y u h5 h6).trans (h.1 y u h5 h6), fun k h5 h6 => (g.2 k h5 h6).trans (h.2 k h5 h6)⟩
theorem Pv_mv (c : Ce) {x s : Int32} (p : Int32) (hx : bM x = false) (hs : bS s = false) : Pv c (mvC c x s p) := ⟨fun y _ h5 h6 => vC_mv_ne c p hx hs y h5 h6, fun k _ _ => figC_mv c p hx hs k⟩
theorem bF_6 : bF 6 = false := by decide
theorem bF_7 : bF 7 = false := by decide
theorem Pv_af (c : Ce) {k : Int32} (v : Int32) (hk : k = 6 ∨ k = 7) : Pv c (afC c k v) := by
  have hb : bF k = false := by rcases hk with rfl | rfl <;> decide
  refine ⟨fun y u _ _ => vC_af c v hb y u, fun t h6 h7 => ?_⟩
  rw [figC_af c v hb, if_neg]
  rintro rfl
  rcases hk with h | h
  · exact h6 h
  · exact h7 h
theorem en_af (c : Ce) {k : Int32} (v : Int32) (hk : bF k = false) {s e : Int32} {n : Nat} {x : Int32} (h : en c s e n x) : en (afC c k v) s e n x := en_congr (fun z => pC_af c v hk z s) h
theorem cnt_af (c : Ce) {k : Int32} (v : Int32) (hk : bF k = false) (y s : Int32) : cnt (afC c k v) y s = cnt c y s := cN_congr (fun i _ => by rw [pC_af c v hk])
theorem tot_af (c : Ce) {k : Int32} (v : Int32) (hk : bF k = false) (y : Int32) : tot (afC c k v) y = tot c y := by
  unfold tot
  rw [cnt_af c v hk, cnt_af c v hk, cnt_af c v hk, cnt_af c v hk]
/-- a figure other than the number of members, the time and the delay -/
theorem Iv_af (iv : Iv lo c) {k : Int32} (v : Int32) (hk : bF k = false) (h0 : ¬ k = 0) (h8 : ¬ k = 8) (h10 : ¬ k = 10) : Iv lo (afC c k v) := by
  obtain ⟨i1, i2, i3, i4, i5, i6, i7, i8⟩ := iv
  unfold Iv
  simp only [vC_af c v hk, pC_af c v hk]
  refine ⟨i1, i2, i3, ?_, fun y hy => ?_, fun s hs x hx => ?_, ?_, ?_⟩
  · rw [figC_af c v hk, if_neg (Ne.symm h8)]
    exact i4
  · have := i5 y hy
    unfold Kc at this ⊢
    simp only [vC_af c v hk, tot_af c v hk, cnt_af c v hk]
    exact this
  · obtain ⟨n, e, he, h⟩ := i6 s hs x hx
    exact ⟨n, e, he, en_af c v hk h⟩
  · rw [figC_af c v hk, if_neg (Ne.symm h0)]
    exact i7
  · rw [figC_af c v hk, if_neg (Ne.symm h10)]
    exact i8
theorem RlM_af (r : RlM c m) {k : Int32} (v : Int32) (hk : bF k = false) : RlM (afC c k v) m := by
  unfold RlM at r ⊢
  simp only [vC_af c v hk, pC_af c v hk]
  exact r
theorem RlM_upd (r : RlM c m) {j : Nat} (v : Int32) (hj : j < 11) : RlM c (upd m j v) := by
  obtain ⟨r0, r1⟩ := r
  have e : ∀ y, bM y = false → ∀ i, i < 12 → oR (upd m j v) y (nI i) = oR m y (nI i) := fun y hy i hi => oR_upd m v hj hy (bW_n hi)
  refine ⟨fun x hx => (e x hx 0 (by omega)).trans (r0 x hx), fun x hx h0 => ?_⟩
  obtain ⟨a1, a2, a3, a4, a5, a6, a7, a8⟩ := r1 x hx h0
  exact ⟨(e x hx 1 (by omega)).trans a1, (e x hx 2 (by omega)).trans a2, (e x hx 3 (by omega)).trans a3, fun h3 => (e x hx 4 (by omega)).trans (a4 h3), (e x hx 5 (by omega)).trans a5, (e x hx 6 (by omega)).trans a6, (e x hx 7 (by omega)).trans a7, fun s hs => (oR_upd m v hj hx (bW_8 hs)).trans (a8 s hs)⟩
theorem upd_same (m : Re) (j : Nat) : upd m j (m j) = m := by
  funext i
  unfold upd
  split
  · next h => rw [h]
  · rfl
theorem upd_comm (m : Re) {i j : Nat} (v w : Int32) (h : ¬ i = j) : upd (upd m i v) j w = upd (upd m j w) i v := by
  funext t
  unfold upd
  by_cases h1 : t = j
  · subst h1
    rw [if_pos rfl, if_neg (Ne.symm h), if_pos rfl]
  · rw [if_neg h1]
    by_cases h2 : t = i
    · rw [if_pos h2, if_pos h2]
    · rw [if_neg h2, if_neg h2, if_neg h1]
theorem upR_comm (m : Re) {x y w u : Int32} (v v' : Int32) (hx : bM x = false) (hy : bM y = false) (hw : bW w = false) (hu : bW u = false) (h : ¬ x = y) : upR (upR m x w v) y u v' = upR (upR m y u v') x w v := by
  obtain ⟨i, hi, rfl⟩ := bM_of hx
  obtain ⟨i', hi', rfl⟩ := bM_of hy
  obtain ⟨j, hj, rfl⟩ := bW_of hw
  obtain ⟨j', hj', rfl⟩ := bW_of hu
  unfold upR
  rw [ix_r hi hj, ix_r hi' hj']
  refine upd_comm m v v' (fun q => h ?_)
  rw [show i = i' by omega]
theorem RlF_up {d : Int32} (r : RlF d c m) {x w : Int32} (v : Int32) (hx : bM x = false) (hw : bW w = false) : RlF d c (upR m x w v) := by
  unfold RlF at r ⊢
  rw [up_lo m v hx hw (by omega), up_lo m v hx hw (by omega), up_lo m v hx hw (by omega), up_lo m v hx hw (by omega), up_lo m v hx hw (by omega), up_lo m v hx hw (by omega), up_lo m v hx hw (by omega), up_lo m v hx hw (by omega), up_lo m v hx hw (by omega), up_lo m v hx hw (by omega)]
  exact r
theorem RlF_9 {d : Int32} (r : RlF d c m) : RlF d (afC c 6 1) (upd m 9 (m 9 + 1)) := by
  obtain ⟨f0, f1, f2, f4, f5, f6, f7, f8, f9, f10⟩ := r
  unfold RlF
  simp only [figC_af c 1 bF_6]
  exact ⟨f0, f1, f2, f4, f5, f6, f7, f8, congrArg (· + 1) f9, f10⟩
theorem RlF_10 {d : Int32} (r : RlF d c m) : RlF d (afC c 7 1) (upd m 10 (m 10 + 1)) := by
  obtain ⟨f0, f1, f2, f4, f5, f6, f7, f8, f9, f10⟩ := r
  unfold RlF
  simp only [figC_af c 1 bF_7]
  exact ⟨f0, f1, f2, f4, f5, f6, f7, f8, f9, congrArg (· + 1) f10⟩
end AT

/-! THE TWO SIDES: the blocks before the next notice are sent at once -/
section TL
variable {lo : Int32 → Nat} {d : Int32} {c c' : Ce} {m : Re}
theorem i32_a (ms A B C : Int32) : ms + (A - B) + (C - A) = ms + (C - B) := by
  simp only [Int32.sub_eq_add_neg]
  rw [Int32.add_assoc, Int32.add_assoc A, ← Int32.add_assoc (-B), Int32.add_comm (-B) C, Int32.add_assoc C, Int32.add_comm (-B) (-A), ← Int32.add_assoc C, ← Int32.add_assoc A, ← Int32.add_assoc A, Int32.add_comm A C, Int32.add_assoc C A, Int32.add_right_neg, Int32.add_zero]
theorem nIs1 (n : Nat) (h : 1 ≤ n) : nI n - 1 = nI (n - 1) := by
  rw [show (1 : Int32) = nI 1 from rfl, pk_sub h]
theorem qt_ok (iv : Iv (fun _ => 1) c) : ∃ q, q ≤ 200 ∧ qtC c = nI q ∧ ∀ x, bM x = false → vC c x 0 = 1 → ∀ k, 1 ≤ k → k ≤ 20 → vC c x 3 = 1 → vC c x 4 = figC c 8 + nI k → q + 1 ≤ k := by
  have : ∀ n, n ≤ 32 → ∃ q, q ≤ 200 ∧ foldTo (qtF c) 200 n = nI q ∧ ∀ i, i < n → vC c (nI i) 0 = 1 → ∀ k, 1 ≤ k → k ≤ 20 → vC c (nI i) 3 = 1 → vC c (nI i) 4 = figC c 8 + nI k → q + 1 ≤ k := by
    intro n
    induction n with
    | zero => exact fun _ => ⟨200, Nat.le_refl _, rfl, fun i hi => by omega⟩
    | succ n ih =>
      intro hn
      obtain ⟨q, q1, q2, q3⟩ := ih (by omega)
      have hM := bM_n (show n < 32 by omega)
      rw [foldTo, q2]
      unfold qtF flC
      by_cases h3 : vC c (nI n) 3 = 1
      · have h0 : vC c (nI n) 0 = 1 := by
          by_cases z : vC c (nI n) 0 = 1
          · exact z
          · rw [(iv.2.1 _ hM (unj iv hM z)).1 3] at h3
            cases h3
        rcases iv.2.2.2.1 _ hM h0 with z | ⟨-, k, k1, k2, k3⟩
        · rw [z.1] at h3
          cases h3
        · have k1' : 1 ≤ k := k1
          have e : vC c (nI n) 4 - figC c 8 - 1 = nI (k - 1) := by
            rw [k3, Int32.add_comm, Int32.add_sub_cancel, nIs1 k k1']
          rw [if_neg (by simp [h3]), e]
          have hu : ∀ k', k' ≤ 20 → vC c (nI n) 4 = figC c 8 + nI k' → k' = k := fun k' hk' e' => by
            rw [k3] at e'
            have := congrArg (· - figC c 8) e'
            rw [Int32.add_comm, Int32.add_sub_cancel, Int32.add_comm, Int32.add_sub_cancel] at this
            exact ((nI_eq (by omega) (by omega)).mp this).symm
          by_cases hl : nI (k - 1) < nI q
          · rw [if_pos hl]
            rw [nI_ltI (by omega) (by omega)] at hl
            refine ⟨k - 1, by omega, rfl, fun i hi g0 k' g1 g2 g3 g4 => ?_⟩
            by_cases hin : i = n
            · subst hin
              have := hu k' g2 g4
              omega
            · have := q3 i (by omega) g0 k' g1 g2 g3 g4
              omega
          · rw [if_neg hl]
            rw [nI_ltI (by omega) (by omega)] at hl
            refine ⟨q, q1, rfl, fun i hi g0 k' g1 g2 g3 g4 => ?_⟩
            by_cases hin : i = n
            · subst hin
              have := hu k' g2 g4
              omega
            · exact q3 i (by omega) g0 k' g1 g2 g3 g4
      · rw [if_pos (by simpa using h3)]
        refine ⟨q, q1, rfl, fun i hi g0 k' g1 g2 g3 g4 => ?_⟩
        by_cases hin : i = n
        · subst hin
          exact absurd g3 h3
        · exact q3 i (by omega) g0 k' g1 g2 g3 g4
  obtain ⟨q, q1, q2, q3⟩ := this 32 (Nat.le_refl _)
  refine ⟨q, q1, q2, fun x hx h0 k k1 k2 k3 k4 => ?_⟩
  obtain ⟨i, hi, rfl⟩ := bM_of hx
  exact q3 i hi h0 k k1 k2 k3 k4
theorem al_ok (iv : Iv (fun _ => 1) c) {l : Nat} (hl : 1 ≤ l) (hl2 : l ≤ 200) : ∃ al, 1 ≤ al ∧ al ≤ l ∧ alC c (nI l) = nI al ∧ ∀ x, bM x = false → vC c x 0 = 1 → ∀ k, 1 ≤ k → k ≤ 20 → vC c x 3 = 1 → vC c x 4 = figC c 8 + nI k → al ≤ k := by
  obtain ⟨q, q1, q2, q3⟩ := qt_ok iv
  unfold alC
  rw [q2, show (1 : Int32) = nI 1 from rfl, nI_add]
  by_cases h1 : nI (1 + q) < nI l
  · simp only [if_pos h1]
    rw [nI_ltI (by omega) (by omega)] at h1
    by_cases h2 : nI 1 < nI (1 + q)
    · rw [if_pos h2]
      refine ⟨1 + q, by omega, by omega, rfl, fun x hx h0 k k1 k2 k3 k4 => ?_⟩
      have := q3 x hx h0 k k1 k2 k3 k4
      omega
    · rw [if_neg h2]
      exact ⟨1, by omega, by omega, rfl, fun x hx h0 k k1 k2 k3 k4 => k1⟩
  · simp only [if_neg h1]
    rw [nI_ltI (by omega) (by omega)] at h1
    by_cases h2 : nI 1 < nI l
    · rw [if_pos h2]
      refine ⟨l, by omega, by omega, rfl, fun x hx h0 k k1 k2 k3 k4 => ?_⟩
      have := q3 x hx h0 k k1 k2 k3 k4
      omega
    · rw [if_neg h2]
      exact ⟨1, by omega, by omega, rfl, fun x hx h0 k k1 k2 k3 k4 => k1⟩
theorem goO_add {σ : Type} (G : Nat → σ → Option σ) : ∀ (a b j : Nat) (m : σ), goO G (a + b) j m = (goO G a j m).bind (goO G b (j + a)) := by
  intro a
  induction a with
  | zero => intro b j m; simp [goO]
  | succ a ih =>
    intro b j m
    rw [show a + 1 + b = a + b + 1 by omega, goO, goO, Option.bind_assoc]
    congr 1
    funext m1
    rw [ih, show j + 1 + a = j + (a + 1) by omega]
/-- a tick in which nothing is noticed, or all that is due -/
theorem to_ok (o : Ok (loN 0) 0 (afC c 8 1) (addM m 2 1)) : ∃ m', toO m = some m' ∧ Ok (fun _ => 1) 0 (sbC (nfC (afC c 8 1)) 1).2 m' ∧ Pw (afC c 8 1) (nfC (afC c 8 1)) ∧ Iv (fun _ => 1) (nfC (afC c 8 1)) := by
  obtain ⟨m1, h1, h2, h3⟩ := nf_ok o
  have h4 : Ok (fun _ => 1) 0 (nfC (afC c 8 1)) m1 := ⟨Iv_lo h2.1 (fun x hx _ => Or.inl (by
    obtain ⟨i, hi, rfl⟩ := bM_of hx
    unfold loN
    rw [nI_clamp (by omega), if_pos hi]
    exact Nat.le_refl _)), h2.2.1, h2.2.2⟩
  obtain ⟨m', h5, h6⟩ := ts_ok h4
  exact ⟨m', by unfold toO; rw [h1, Option.bind_some]; exact h5, h6, h3, h4.1⟩
theorem jn_af (c : Ce) {k : Int32} (v : Int32) (hk : bF k = false) (x : Int32) : jnC (afC c k v) x = jnC c x := by
  unfold jnC
  rw [vC_af c v hk]
theorem dv_cg (h1 : ∀ y t, pC c' y t = pC c y t) (h3 : ∀ y, vC c' y 3 = vC c y 3) (x u : Int32) : dvC c' x u = dvC c x u := by
  unfold dvC
  rw [pcC_cg h1 h3, haI_cg h1 h3, miI_cg h1 h3]
theorem tf_cg (h1 : ∀ y t, pC c' y t = pC c y t) (h3 : ∀ y, vC c' y 3 = vC c y 3) (h0 : ∀ y, vC c' y 0 = vC c y 0) (k : Int32) : tfC c' k = tfC c k := by
  unfold tfC
  by_cases hk : k = 1
  · rw [if_pos hk, if_pos hk]
  · rw [if_neg hk, if_neg hk]
    refine sumTo_congr (fun i _ => ?_)
    unfold jnC dfC
    rw [h0, pcC_cg h1 h3, haI_cg h1 h3, miI_cg h1 h3]
theorem dvC_3 (c : Ce) (y : Int32) : dvC c y 3 = 0 := rfl
theorem dvC_0 (c : Ce) (y : Int32) : dvC c y 0 = 0 := rfl
theorem dvC_4 (c : Ce) (y : Int32) : dvC c y 4 = 0 := rfl
theorem sb_ne (c : Ce) (b y : Int32) {u : Int32} (h : ∀ x, dvC c x u = 0) : vC (sbC c b).2 y u = vC c y u := by
  rw [sb_v, h]
  split <;> simp
/-- the state after i blocks -/
def ciC (c : Ce) (i : Nat) : Ce := afC (sbC c (nI i)).2 8 (nI i - 1)
theorem ci_p (c : Ce) (i : Nat) (y t : Int32) : pC (ciC c i) y t = pC c y t := by
  unfold ciC
  rw [pC_af _ _ bF_8, sb_p]
theorem ci_v (c : Ce) (i : Nat) (y u : Int32) : vC (ciC c i) y u = vC c y u + (if bM y = false ∧ jnC c y = true then dvC c y u * nI i else 0) := by
  unfold ciC
  rw [vC_af _ _ bF_8, sb_v]
theorem ci_f (c : Ce) (i : Nat) (k : Int32) : figC (ciC c i) k = (figC c k + tfC c k * nI i) + (if k = 8 then nI i - 1 else 0) := by
  unfold ciC
  rw [figC_af _ _ bF_8, sb_f, sb_f]
  by_cases hk : k = 8
  · rw [if_pos hk, if_pos hk, hk]
  · rw [if_neg hk, if_neg hk, Int32.add_zero]
theorem tfC_8 (c : Ce) : tfC c 8 = 0 := by
  unfold tfC
  rw [if_neg (by decide)]
  have : sumTo (fun i => if jnC c (nI i) = true then dfC c (nI i) 8 else 0) 32 = nI (cN (fun _ => false) 32) := sumTo_cN _ _ 32 (fun i _ => by simp [show dfC c (nI i) 8 = 0 from rfl])
  rw [this, cN_zero (fun _ _ => rfl)]
  rfl
theorem ci_1 (c : Ce) : VE (ciC c 1) (sbC c 1).2 := by
  refine ⟨fun y t => by rw [ci_p, sb_p], fun y u => by rw [ci_v, sb_v]; rfl, fun k => ?_⟩
  rw [ci_f, sb_f, show nI 1 - 1 = 0 from rfl]
  split <;> rw [Int32.add_zero] <;> rfl
theorem ci_s (c : Ce) (i : Nat) (h : 1 ≤ i) : VE (ciC c (i + 1)) (sbC (afC (ciC c i) 8 1) 1).2 := by
  have hp : ∀ y t, pC (afC (ciC c i) 8 1) y t = pC c y t := fun y t => by rw [pC_af _ _ bF_8, ci_p]
  have h3 : ∀ y, vC (afC (ciC c i) 8 1) y 3 = vC c y 3 := fun y => by
    rw [vC_af _ _ bF_8, ci_v, dvC_3]
    split <;> simp
  have h0 : ∀ y, vC (afC (ciC c i) 8 1) y 0 = vC c y 0 := fun y => by
    rw [vC_af _ _ bF_8, ci_v, dvC_0]
    split <;> simp
  refine ⟨fun y t => by rw [ci_p, sb_p, hp], fun y u => ?_, fun k => ?_⟩
  · rw [ci_v, sb_v, dv_cg hp h3, vC_af _ _ bF_8, ci_v]
    have hj : jnC (afC (ciC c i) 8 1) y = jnC c y := by
      unfold jnC
      rw [h0]
    rw [hj, nI_succ]
    split
    · rw [Int32.mul_add, Int32.add_assoc]
    · simp
  · rw [ci_f, sb_f, tf_cg hp h3 h0, figC_af _ _ bF_8, ci_f, ci_f]
    by_cases hk : k = 8
    · rw [hk, if_pos rfl, if_pos rfl, if_pos rfl, tfC_8]
      simp only [Int32.zero_mul, Int32.add_zero]
      rw [nIs1 _ (by omega), nIs1 _ h, Int32.add_assoc, nI_1]
      congr 2
      omega
    · rw [if_neg hk, if_neg hk, if_neg hk, nI_succ, Int32.add_zero, Int32.add_zero, Int32.mul_add, Int32.add_assoc]
theorem bt_ok (o : Ok (fun _ => 1) 0 c m) {al : Nat} (hal : ∀ x, bM x = false → vC (nfC (afC c 8 1)) x 0 = 1 → ∀ k, 1 ≤ k → k ≤ 20 → vC (nfC (afC c 8 1)) x 3 = 1 → vC (nfC (afC c 8 1)) x 4 = figC (nfC (afC c 8 1)) 8 + nI k → al ≤ k) : ∀ i, 1 ≤ i → i ≤ al → ∀ j, ∃ m', goO tkG i j m = some m' ∧ Ok (fun _ => 1) 0 (ciC (nfC (afC c 8 1)) i) m' := by
  have o1 : Ok (loN 0) 0 (afC c 8 1) (addM m 2 1) := Ok_time o 1 (fun x _ _ k k1 _ _ _ => by
    have k1' : 1 ≤ k := k1
    show (if x.toNatClampNeg < 0 then 1 else 0) + 1 ≤ k
    rw [if_neg (by omega)]
    omega)
  obtain ⟨m1, h1, h2, h3, h4⟩ := to_ok o1
  generalize nfC (afC c 8 1) = c1 at hal h2 h4 ⊢
  intro i
  induction i with
  | zero => intro q; omega
  | succ i ih =>
    intro _ hi j
    by_cases hi0 : i = 0
    · subst hi0
      refine ⟨m1, ?_, Ok_VE (ci_1 c1) h2⟩
      show (tkG j m).bind _ = _
      rw [show tkG j m = some m1 from h1]
      rfl
    · obtain ⟨mi, g1, g2⟩ := ih (by omega) (by omega) j
      have e3 : ∀ y, vC (ciC c1 i) y 3 = vC c1 y 3 := fun y => by
        rw [ci_v, dvC_3]
        split <;> simp
      have e4 : ∀ y, vC (ciC c1 i) y 4 = vC c1 y 4 := fun y => by
        rw [ci_v, dvC_4]
        split <;> simp
      have e0 : ∀ y, vC (ciC c1 i) y 0 = vC c1 y 0 := fun y => by
        rw [ci_v, dvC_0]
        split <;> simp
      have e8 : figC (ciC c1 i) 8 = figC c1 8 + nI (i - 1) := by
        rw [ci_f, tfC_8, if_pos rfl, Int32.zero_mul, Int32.add_zero, nIs1 i (by omega)]
      have o2 : Ok (fun _ => 1) 0 (afC (ciC c1 i) 8 1) (addM mi 2 1) := Ok_time g2 1 (fun x hx x0 k k1 k2 x3 x4 => by
        rw [e0] at x0
        rw [e3] at x3
        rw [e4, e8, Int32.add_assoc, nI_add] at x4
        have k1' : 1 ≤ k := k1
        show 1 + 1 ≤ k
        rcases h4.2.2.2.1 x hx x0 with q | ⟨-, k0, q1, q2, q3⟩
        · rw [q.1] at x3
          cases x3
        · have q1' : 1 ≤ k0 := q1
          have := hal x hx x0 k0 q1' q2 x3 q3
          rw [q3] at x4
          have e := congrArg (· - figC c1 8) x4
          rw [Int32.add_comm, Int32.add_sub_cancel, Int32.add_comm, Int32.add_sub_cancel] at e
          by_cases hbig : i ≤ 200
          · have := (nI_eq (by omega) (by omega)).mp e
            omega
          · omega)
      have o3 : Ok (loN 0) 0 (afC (ciC c1 i) 8 1) (addM mi 2 1) := ⟨Iv_lo o2.1 (fun x _ _ => Or.inl (by
        show (if x.toNatClampNeg < 0 then 1 else 0) ≤ 1
        rw [if_neg (by omega)]
        omega)), o2.2.1, o2.2.2⟩
      obtain ⟨m', p1, p2, -, -⟩ := to_ok o3
      rw [nf_id o2.1] at p2
      refine ⟨m', ?_, Ok_VE (ci_s c1 i (by omega)) p2⟩
      rw [goO_add tkG i 1 j m, g1]
      show goO tkG 1 (j + i) mi = _
      show (toO mi).bind _ = _
      rw [p1]
      rfl
theorem tk_ok : ∀ (n l : Nat) (ms : Int32) (c : Ce) (m : Re) (j : Nat), l ≤ n → l ≤ 200 → Ok (fun _ => 1) 0 c m → ∃ m', goO tkG l j m = some m' ∧ Ok (fun _ => 1) 0 (tkGo n (nI l) ms c).2 m' ∧ (tkGo n (nI l) ms c).1 = ms + (figC (tkGo n (nI l) ms c).2 4 - figC c 4) := by
  intro n
  induction n with
  | zero =>
    intro l ms c m j hl _ o
    have : l = 0 := by omega
    subst this
    exact ⟨m, rfl, o, by show ms = ms + (figC c 4 - figC c 4); rw [Int32.sub_self, Int32.add_zero]⟩
  | succ n ih =>
    intro l ms c m j hl hl2 o
    rw [tkGo]
    by_cases h0 : l = 0
    · subst h0
      rw [if_pos (by decide)]
      exact ⟨m, rfl, o, by show ms = ms + (figC c 4 - figC c 4); rw [Int32.sub_self, Int32.add_zero]⟩
    · rw [if_neg (nI_nle (by omega) (by omega))]
      have o1 : Ok (loN 0) 0 (afC c 8 1) (addM m 2 1) := Ok_time o 1 (fun x _ _ k k1 _ _ _ => by
        have k1' : 1 ≤ k := k1
        show (if x.toNatClampNeg < 0 then 1 else 0) + 1 ≤ k
        rw [if_neg (by omega)]
        omega)
      obtain ⟨-, -, -, pw, iv1⟩ := to_ok o1
      obtain ⟨al, a1, a2, a3, a4⟩ := al_ok iv1 (l := l) (by omega) hl2
      obtain ⟨m1, g1, g2⟩ := bt_ok o a4 al a1 (Nat.le_refl _) j
      rw [a3, pk_sub a2]
      obtain ⟨m', g3, g4, g5⟩ := ih (l - al) (ms + (sbC (nfC (afC c 8 1)) (nI al)).1) _ m1 (j + al) (by omega) (by omega) g2
      refine ⟨m', ?_, g4, ?_⟩
      · rw [show l = al + (l - al) by omega, goO_add tkG al (l - al) j m, g1, Option.bind_some]
        exact g3
      · have e1 : figC (ciC (nfC (afC c 8 1)) al) 4 = figC (sbC (nfC (afC c 8 1)) (nI al)).2 4 := by
          unfold ciC
          rw [figC_af _ _ bF_8, if_neg (by decide)]
        have e2 : figC (nfC (afC c 8 1)) 4 = figC c 4 := by
          rw [pw 4 (by decide) (by decide) (by decide) (by decide), figC_af _ _ bF_8, if_neg (by decide)]
        refine g5.trans ?_
        rw [sb_1, e1, e2]
        exact i32_a _ _ _ _
theorem op_tick (h : St c m) {n : Int32} (hn : bR n 1 200 = false) : ∃ m', (goO tkG n.toNatClampNeg 0 m).map (fun m' => (m' 7 - m 7, m')) = some ((tkC c n).1, m') ∧ St (tkC c n).2 m' := by
  obtain ⟨l, l1, l2, rfl⟩ := bR_of1 (n := 200) (by omega) hn
  obtain ⟨m', g1, g2, g3⟩ := tk_ok 200 l 0 c m 0 l2 l2 h
  refine ⟨m', ?_, g2⟩
  rw [nI_clamp (by omega), g1]
  show some (m' 7 - m 7, m') = some ((tkGo 200 (nI l) 0 c).1, m')
  have f1 := g2.2.2.2.2.2.2.2.2.1
  have f2 := h.2.2.2.2.2.2.2.2.1
  rw [g3, Int32.zero_add, f1, f2]
end TL

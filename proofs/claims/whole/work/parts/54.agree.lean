/-! THE TWO SIDES: each call on the whole memory, behind the law's catching -/
def wE : Nat → List String → String → Option Int32
  | _, [], _ => none
  | k, e :: t, E => if E = e then some (nI k) else wE (k + 1) t E
def wX (es : List String) (r : Option Rs) : Option Rs := match r with
  | some (.inl (some (.int v), M)) => some (.inl (some (.int 0), k_uL M 1 v.toInt64))
  | some (.inr (E, M)) => (wE 1 es E).map (fun k => .inl (some (.int k), M))
  | _ => none
def Agr (es : List String) (F G : Mm → Option Rs) (M : Mm) : Prop := ∃ k M1 b M2, wX es (F M) = some (.inl (some (.int k), M1)) ∧ G M1 = some (.inl (some (.int b), M2)) ∧ M2.1 4 3 = k ∧ (k = 0 → M2.2 1 = b.toInt64) ∧ WR M2
theorem uL_1 (M : Mm) (v : Int64) : (k_uL M 1 v).2 1 = v := by simp [k_uL, vp_updL]
theorem Agr_x {es : List String} {F G : Mm → Option Rs} {M : Mm} (h : WR M) {E : String} {k : Int32} (hF : F M = some (.inr (E, M))) (hE : wE 1 es E = some k) (hk : ¬ k = 0) (hG : G M = some (.inl (some (.int 0), kc M k))) : Agr es F G M := by
  refine ⟨k, M, 0, kc M k, ?_, hG, kc_43 M k, fun q => absurd q hk, WR_kc h k⟩
  rw [hF]
  show (wE 1 es E).map _ = _
  rw [hE]
  rfl
theorem Agr_q {es : List String} {F G : Mm → Option Rs} {M : Mm} (h : WR M) {v : Int32} (hF : F M = some (.inl (some (.int v), M))) (hG : ∀ M1 : Mm, M1.1 = M.1 → G M1 = some (.inl (some (.int v), kc M1 0))) : Agr es F G M := by
  refine ⟨0, k_uL M 1 v.toInt64, v, kc (k_uL M 1 v.toInt64) 0, ?_, hG _ rfl, kc_43 _ _, fun _ => uL_1 M _, WR_kc (WR_L h rfl) 0⟩
  rw [hF]
  rfl
theorem keM_43 (M : Mm) : (keM M).1 4 3 = M.1 4 3 := by
  unfold keM
  split <;> rfl
theorem keM_L (M : Mm) : (keM M).2 = M.2 := by
  unfold keM
  split <;> rfl
theorem keM_0 (M : Mm) : (keM M).1 0 = M.1 0 := by
  unfold keM
  split <;> rfl
theorem keM_1 (M : Mm) : (keM M).1 1 = M.1 1 := by
  unfold keM
  split <;> rfl
theorem keM_40 (M : Mm) : (keM M).1 4 0 = M.1 4 0 := by
  unfold keM
  split <;> rfl
theorem keM_41 (M : Mm) : (keM M).1 4 1 = M.1 4 1 := by
  unfold keM
  split <;> rfl
theorem keM_cg {M N : Mm} (h2 : N.1 2 = M.1 2) (h3 : N.1 3 = M.1 3) (h4 : N.1 4 2 = M.1 4 2) : (keM N).1 3 = (keM M).1 3 ∧ (keM N).1 4 2 = (keM M).1 4 2 := by
  unfold keM
  rw [h4]
  split
  · refine ⟨?_, (k_up4_4 _ _ _).trans (k_up4_4 _ _ _).symm⟩
    show wrK (shK (N.1 3) 1185) (N.1 2) 3 395 = wrK (shK (M.1 3) 1185) (M.1 2) 3 395
    rw [h2, h3]
  · refine ⟨?_, (k_up4_4 _ _ _).trans (k_up4_4 _ _ _).symm⟩
    show wrK (N.1 3) (N.1 2) _ 395 = wrK (M.1 3) (M.1 2) _ 395
    rw [h2, h3]
theorem psM_r (M : Mm) : (psM M).1 2 = M.1 2 ∧ (psM M).1 3 = M.1 3 ∧ (psM M).1 4 2 = M.1 4 2 ∧ (psM M).2 = M.2 := by
  unfold psM puM
  split <;> exact ⟨rfl, rfl, rfl, rfl⟩
theorem k_r2_n (M : Mm) (m : Re) {b : Nat} (h : ¬ b = 2) : (k_r2 M m).1 b = M.1 b := if_neg h
theorem k_r2_L (M : Mm) (m : Re) : (k_r2 M m).2 = M.2 := rfl
theorem kc_n (M : Mm) (v : Int32) {b : Nat} (h : ¬ b = 4) : (kc M v).1 b = M.1 b := if_neg h
theorem kc_4n (M : Mm) (v : Int32) {j : Nat} (h : ¬ j = 3) : (kc M v).1 4 j = M.1 4 j := by simp [kc, k_up, upd, h]
theorem k_uL_1 (M : Mm) (j : Nat) (v : Int64) : (k_uL M j v).1 = M.1 := rfl
theorem WR_ke {M : Mm} (h : WR M) {c : Ce} {m : Re} (hs : St c m) {M1 : Mm} (hM1 : M1.1 = (k_r0 (psM M) c).1) : WR (k_r2 (keM (kc M1 0)) m) ∧ (k_r2 (keM (kc M1 0)) m).1 4 3 = 0 ∧ (k_r2 (keM (kc M1 0)) m).2 = M1.2 := by
  obtain ⟨p2, p3, p4, pL⟩ := psM_r M
  have er : ∀ b, ¬ b = 0 → M1.1 b = (psM M).1 b := fun b hb => by rw [hM1, k_r0_n _ _ hb]
  have e0 : M1.1 0 = c := by rw [hM1, k_r0_0]
  have e2 : M1.1 2 = M.1 2 := (er 2 (by decide)).trans p2
  have e3 : M1.1 3 = M.1 3 := (er 3 (by decide)).trans p3
  have e4 : M1.1 4 = (psM M).1 4 := er 4 (by decide)
  have e42 : M1.1 4 2 = M.1 4 2 := by rw [e4]; exact p4
  obtain ⟨k3, k4⟩ := keM_cg (M := M) (N := kc M1 0) ((kc_n M1 0 (by decide)).trans e2) ((kc_n M1 0 (by decide)).trans e3) ((kc_42 M1 0).trans e42)
  refine ⟨WR_ch h hs _ ?_ (k_r2_2 _ _) ?_ ?_ ?_ ?_ ?_, ?_, ?_⟩
  · rw [k_r2_n _ _ (by decide), keM_0, kc_n _ _ (by decide)]
    exact e0
  · rw [k_r2_n _ _ (by decide), keM_1, kc_n _ _ (by decide)]
    exact er 1 (by decide)
  · rw [k_r2_n _ _ (by decide), keM_40, kc_4n _ _ (by decide), e4]
  · rw [k_r2_n _ _ (by decide), keM_41, kc_4n _ _ (by decide), e4]
  · rw [k_r2_n _ _ (by decide)]
    exact k3
  · rw [k_r2_n _ _ (by decide)]
    exact k4
  · rw [k_r2_n _ _ (by decide), keM_43]
    exact kc_43 M1 0
  · rw [k_r2_L, keM_L, kc_L]
theorem Agr_c {es : List String} {F G : Mm → Option Rs} {M : Mm} (h : WR M) {v : Int32} {c : Ce} {m : Re} (hs : St c m) (hF : F M = some (.inl (some (.int v), k_r0 (psM M) c))) (hG : ∀ M1 : Mm, M1.1 2 = M.1 2 → bR (M1.1 4 2) 0 4 = false → G M1 = some (.inl (some (.int v), k_r2 (keM (kc M1 0)) m))) : Agr es F G M := by
  obtain ⟨p2, p3, p4, pL⟩ := psM_r M
  have hb := WR_bR h
  obtain ⟨w1, w2, w3⟩ := WR_ke h hs (M1 := k_uL (k_r0 (psM M) c) 1 v.toInt64) rfl
  have er : ∀ b, ¬ b = 0 → (k_uL (k_r0 (psM M) c) 1 v.toInt64).1 b = (psM M).1 b := fun b hb' => by rw [k_uL_1, k_r0_n _ _ hb']
  refine ⟨0, k_uL (k_r0 (psM M) c) 1 v.toInt64, v, _, ?_, hG _ ((er 2 (by decide)).trans p2) (by rw [er 4 (by decide), p4]; exact hb), w2, fun _ => ?_, w1⟩
  · rw [hF]
    rfl
  · rw [w3]
    exact uL_1 _ _
theorem qK_in {v : Int32} {m : Re} {M : Mm} {o : Option (Int32 × Re)} (ho : o = some (v, m)) (hb : bR (M.1 4 2) 0 4 = false) : qK 0 o M = some (.inl (some (.int v), k_r2 (keM (kc M 0)) m)) := by
  unfold qK
  rw [if_pos rfl, if_pos hb, ho]
  rfl
theorem qK_x {k : Int32} (hk : ¬ k = 0) (o : Option (Int32 × Re)) (M : Mm) : qK k o M = some (.inl (some (.int 0), kc M k)) := by
  unfold qK
  rw [if_neg hk]
theorem qG_in {v : Int32} {g : Bool} {M : Mm} (hg : g = true) : qG 0 g v M = some (.inl (some (.int v), kc M 0)) := by
  unfold qG
  rw [if_pos rfl, if_pos hg]
theorem qG_x {k : Int32} (hk : ¬ k = 0) (g : Bool) (v : Int32) (M : Mm) : qG k g v M = some (.inl (some (.int 0), kc M k)) := by
  unfold qG
  rw [if_neg hk]
abbrev e123 : List String := [k_IOE, k_IAE, k_ISE]
abbrev e13 : List String := [k_IOE, k_ISE]
abbrev e12 : List String := [k_IOE, k_IAE]
abbrev e2 : List String := [k_IAE]
abbrev e3 : List String := [k_ISE]
section AG
variable {M : Mm}
theorem bR_03 (p : Int32) : bR p 0 3 = bS p := bR_bS p
theorem jn_c (h : WR M) {x : Int32} (hx : bM x = false) : jR (M.1 2) x = jnC (M.1 0) x := jR_eq h.1.2.1 hx
theorem ag_join (h : WR M) (x b p : Int32) : Agr e123 (f_join x b p) (fr_join x b p) M := by
  by_cases hx : bM x = true
  · exact Agr_x h (E := k_IOE) (k := 1) (by unfold f_join; rw [if_pos hx]) rfl (by decide) (by unfold fr_join; rw [if_pos hx]; exact qK_x (by decide) _ _)
  · have hx' : bM x = false := by simpa using hx
    by_cases hb : bR b 0 8 = true
    · exact Agr_x h (E := k_IAE) (k := 2) (by unfold f_join; rw [if_neg hx, if_pos hb]) rfl (by decide) (by unfold fr_join; rw [if_neg hx, if_pos hb]; exact qK_x (by decide) _ _)
    · by_cases hp : bS p = true
      · exact Agr_x h (E := k_IAE) (k := 2) (by unfold f_join; rw [if_neg hx, if_neg hb, bR_03, if_pos hp]) rfl (by decide) (by unfold fr_join; rw [if_neg hx, if_neg hb, if_pos hp]; exact qK_x (by decide) _ _)
      · by_cases hj : jnC (M.1 0) x = true
        · exact Agr_x h (E := k_ISE) (k := 3) (by unfold f_join; rw [if_neg hx, if_neg hb, bR_03, if_neg hp, if_pos hj]) rfl (by decide) (by unfold fr_join; rw [if_neg hx, if_neg hb, if_neg hp, jn_c h hx', if_pos hj]; exact qK_x (by decide) _ _)
        · obtain ⟨m', g1, g2⟩ := op_join h.1 b p hx' (by rw [jn_c h hx']; simpa using hj)
          refine Agr_c h g2 (by unfold f_join; rw [if_neg hx, if_neg hb, bR_03, if_neg hp, if_neg hj]) (fun M1 e1 e2 => ?_)
          unfold fr_join
          rw [e1, if_neg hx, if_neg hb, if_neg hp, jn_c h hx', if_neg hj]
          exact qK_in g1 e2
theorem ag_leave (h : WR M) (x : Int32) : Agr e13 (f_leave x) (fr_leave x) M := by
  by_cases hx : bM x = true
  · exact Agr_x h (E := k_IOE) (k := 1) (by unfold f_leave; rw [if_pos hx]) rfl (by decide) (by unfold fr_leave cdM; rw [if_pos hx]; exact qK_x (by decide) _ _)
  · have hx' : bM x = false := by simpa using hx
    by_cases hj : jnC (M.1 0) x = true
    · obtain ⟨m', g1, g2⟩ := op_leave h.1 hx' (by rw [jn_c h hx']; exact hj)
      refine Agr_c h g2 (by unfold f_leave; rw [if_neg hx, if_pos hj]) (fun M1 e1 e2 => ?_)
      unfold fr_leave cdM
      rw [e1, if_neg hx, jn_c h hx', if_pos hj]
      exact qK_in g1 e2
    · exact Agr_x h (E := k_ISE) (k := 2) (by unfold f_leave; rw [if_neg hx, if_neg hj]) rfl (by decide) (by unfold fr_leave cdM; rw [if_neg hx, jn_c h hx', if_neg hj]; exact qK_x (by decide) _ _)
theorem ag_fail (h : WR M) (x : Int32) : Agr e13 (f_fail x) (fr_fail x) M := by
  by_cases hx : bM x = true
  · exact Agr_x h (E := k_IOE) (k := 1) (by unfold f_fail; rw [if_pos hx]) rfl (by decide) (by unfold fr_fail; rw [if_pos hx]; exact qK_x (by decide) _ _)
  · have hx' : bM x = false := by simpa using hx
    by_cases hj : jnC (M.1 0) x = true
    · have h0 : vC (M.1 0) x 0 = 1 := by simpa [jnC] using hj
      have r3 := (h.1.2.1.2 x hx' h0).2.2.1
      have hj' : ¬ jR (M.1 2) x = false := by rw [jn_c h hx', hj]; decide
      by_cases hf : flC (M.1 0) x = true
      · have h3 : ¬ oR (M.1 2) x 3 = 0 := by
          rw [r3]
          have : vC (M.1 0) x 3 = 1 := by simpa [flC] using hf
          rw [this]
          decide
        exact Agr_x h (E := k_ISE) (k := 2) (by unfold f_fail; rw [if_neg hx, if_neg (by simp [hj]), if_pos hf]) rfl (by decide) (by unfold fr_fail; rw [if_neg hx, if_neg hj', if_neg h3]; exact qK_x (by decide) _ _)
      · have h3 : oR (M.1 2) x 3 = 0 := by
          rw [r3]
          exact (f01 h.1.1 hx' h0).resolve_right (by simpa [flC] using hf)
        obtain ⟨g1, g2⟩ := op_fail h.1 hx' (by rw [jn_c h hx']; exact hj)
        refine Agr_c h g2 (by unfold f_fail; rw [if_neg hx, if_neg (by simp [hj]), if_neg hf]) (fun M1 e1 e2 => ?_)
        unfold fr_fail
        rw [e1, if_neg hx, if_neg hj', if_pos h3]
        exact qK_in (by rw [g1]) e2
    · exact Agr_x h (E := k_ISE) (k := 2) (by unfold f_fail; rw [if_neg hx, if_pos hj]) rfl (by decide) (by unfold fr_fail; rw [if_neg hx, jn_c h hx', if_pos (by simpa using hj)]; exact qK_x (by decide) _ _)
theorem ag_setBound (h : WR M) (x b : Int32) : Agr e123 (f_setBound x b) (fr_setBound x b) M := by
  by_cases hx : bM x = true
  · exact Agr_x h (E := k_IOE) (k := 1) (by unfold f_setBound; rw [if_pos hx]) rfl (by decide) (by unfold fr_setBound; rw [if_pos hx]; exact qK_x (by decide) _ _)
  · have hx' : bM x = false := by simpa using hx
    by_cases hb : bR b 0 8 = true
    · exact Agr_x h (E := k_IAE) (k := 2) (by unfold f_setBound; rw [if_neg hx, if_pos hb]) rfl (by decide) (by unfold fr_setBound; rw [if_neg hx, if_pos hb]; exact qK_x (by decide) _ _)
    · by_cases hj : jnC (M.1 0) x = true
      · obtain ⟨m', g1, g2⟩ := op_setBound h.1 hx' (by simpa using hb) (by rw [jn_c h hx']; exact hj)
        refine Agr_c h g2 (by unfold f_setBound; rw [if_neg hx, if_neg hb, if_neg (by simp [hj])]) (fun M1 e1 e2 => ?_)
        unfold fr_setBound
        rw [e1, if_neg hx, if_neg hb, jn_c h hx', if_pos hj]
        exact qK_in g1 e2
      · exact Agr_x h (E := k_ISE) (k := 3) (by unfold f_setBound; rw [if_neg hx, if_neg hb, if_pos hj]) rfl (by decide) (by unfold fr_setBound; rw [if_neg hx, if_neg hb, jn_c h hx', if_neg hj]; exact qK_x (by decide) _ _)
theorem ag_setSource (h : WR M) (b : Int32) : Agr e2 (f_setSource b) (fr_setSource b) M := by
  by_cases hb : bR b 1 8 = true
  · exact Agr_x h (E := k_IAE) (k := 1) (by unfold f_setSource; rw [if_pos hb]) rfl (by decide) (by unfold fr_setSource; rw [if_pos hb]; exact qK_x (by decide) _ _)
  · obtain ⟨m', g1, g2⟩ := op_setSource h.1 (b := b) (by simpa using hb)
    refine Agr_c h g2 (by unfold f_setSource; rw [if_neg hb]) (fun M1 e1 e2 => ?_)
    unfold fr_setSource
    rw [e1, if_neg hb]
    exact qK_in g1 e2
theorem ag_setDelay (h : WR M) (b : Int32) : Agr e2 (f_setDelay b) (fr_setDelay b) M := by
  by_cases hb : bR b 1 20 = true
  · exact Agr_x h (E := k_IAE) (k := 1) (by unfold f_setDelay; rw [if_pos hb]) rfl (by decide) (by unfold fr_setDelay; rw [if_pos hb]; exact qK_x (by decide) _ _)
  · obtain ⟨g1, g2⟩ := op_setDelay h.1 (b := b) (by simpa using hb)
    refine Agr_c h g2 (by unfold f_setDelay; rw [if_neg hb]) (fun M1 e1 e2 => ?_)
    unfold fr_setDelay
    rw [e1, if_neg hb]
    exact qK_in (by rw [g1]) e2
theorem ag_tick (h : WR M) (n : Int32) : Agr e2 (f_tick n) (fr_tick n) M := by
  by_cases hb : bR n 1 200 = true
  · exact Agr_x h (E := k_IAE) (k := 1) (by unfold f_tick; rw [if_pos hb]) rfl (by decide) (by unfold fr_tick; rw [if_pos hb]; exact qK_x (by decide) _ _)
  · obtain ⟨m', g1, g2⟩ := op_tick h.1 (n := n) (by simpa using hb)
    refine Agr_c h g2 (by unfold f_tick; rw [if_neg hb]) (fun M1 e1 e2 => ?_)
    unfold fr_tick
    rw [e1, if_neg hb]
    exact qK_in g1 e2
theorem ag_rejoin (h : WR M) (x s : Int32) : Agr e13 (f_rejoin x s) (fr_rejoin x s) M := by
  by_cases hx : bM x = true
  · exact Agr_x h (E := k_IOE) (k := 1) (by unfold f_rejoin; rw [if_pos hx]) rfl (by decide) (by unfold fr_rejoin cdMS; rw [if_pos hx]; exact qK_x (by decide) _ _)
  · have hx' : bM x = false := by simpa using hx
    by_cases hs : bS s = true
    · exact Agr_x h (E := k_IOE) (k := 1) (by unfold f_rejoin; rw [if_neg hx, if_pos hs]) rfl (by decide) (by unfold fr_rejoin cdMS; rw [if_neg hx, if_pos hs]; exact qK_x (by decide) _ _)
    · by_cases hj : jnC (M.1 0) x = true
      · obtain ⟨m', g1, g2⟩ := op_rejoin h.1 hx' (s := s) (by simpa using hs) (by rw [jn_c h hx']; exact hj)
        refine Agr_c h g2 (by unfold f_rejoin; rw [if_neg hx, if_neg hs, if_pos hj]) (fun M1 e1 e2 => ?_)
        unfold fr_rejoin cdMS
        rw [e1, if_neg hx, if_neg hs, jn_c h hx', if_pos hj]
        exact qK_in g1 e2
      · exact Agr_x h (E := k_ISE) (k := 2) (by unfold f_rejoin; rw [if_neg hx, if_neg hs, if_neg hj]) rfl (by decide) (by unfold fr_rejoin cdMS; rw [if_neg hx, if_neg hs, jn_c h hx', if_neg hj]; exact qK_x (by decide) _ _)
/-- questions about a joined member and a stripe -/
theorem ag_ms (h : WR M) (x s : Int32) {v : Int32} {g : Re → Bool} {w : Re → Int32} (F G : Mm → Option Rs) (hF : ∀ N, F N = q_ms x s N (.int (v))) (hG : ∀ N : Mm, G N = qG (cdMS (N.1 2) x s) (g (N.1 2)) (w (N.1 2)) N) (ok : bM x = false → bS s = false → vC (M.1 0) x 0 = 1 → g (M.1 2) = true ∧ w (M.1 2) = v) : Agr e13 F G M := by
  by_cases hx : bM x = true
  · exact Agr_x h (E := k_IOE) (k := 1) (by rw [hF]; unfold q_ms; rw [if_pos hx]) rfl (by decide) (by rw [hG]; unfold cdMS; rw [if_pos hx]; exact qG_x (by decide) _ _ _)
  · have hx' : bM x = false := by simpa using hx
    by_cases hs : bS s = true
    · exact Agr_x h (E := k_IOE) (k := 1) (by rw [hF]; unfold q_ms; rw [if_neg hx, if_pos hs]) rfl (by decide) (by rw [hG]; unfold cdMS; rw [if_neg hx, if_pos hs]; exact qG_x (by decide) _ _ _)
    · by_cases hj : jnC (M.1 0) x = true
      · obtain ⟨g1, g2⟩ := ok hx' (by simpa using hs) (by simpa [jnC] using hj)
        refine Agr_q h (v := v) (by rw [hF]; unfold q_ms; rw [if_neg hx, if_neg hs, if_pos hj]) (fun M1 e1 => ?_)
        rw [hG, e1]
        unfold cdMS
        rw [if_neg hx, if_neg hs, jn_c h hx', if_pos hj, g2]
        exact qG_in g1
      · exact Agr_x h (E := k_ISE) (k := 2) (by rw [hF]; unfold q_ms; rw [if_neg hx, if_neg hs, if_neg hj]) rfl (by decide) (by rw [hG]; unfold cdMS; rw [if_neg hx, if_neg hs, jn_c h hx', if_neg hj]; exact qG_x (by decide) _ _ _)
end AG

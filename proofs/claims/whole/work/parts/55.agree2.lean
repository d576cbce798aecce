/-! THE TWO SIDES: the rest of the calls -/
section AH
variable {M : Mm}
theorem ag_parent (h : WR M) (x s : Int32) : Agr e13 (f_parent x s) (fr_parent x s) M :=
  ag_ms h x s (v := pC (M.1 0) x s) (g := fun _ => true) (w := fun m => oR m x (8 + s)) (fun N => q_ms x s N (.int (pC (M.1 0) x s))) _ (fun _ => rfl) (fun _ => rfl) (fun hx hs h0 => ⟨rfl, pa_eq h.1 hx h0 hs⟩) |> fun z => by
    obtain ⟨k, M1, b, M2, z1, z2⟩ := z
    exact ⟨k, M1, b, M2, z1, z2⟩
theorem ag_depth (h : WR M) (x s : Int32) : Agr e13 (f_depth x s) (fr_depth x s) M :=
  ag_ms h x s (v := dC (M.1 0) x s) (g := fun m => okR m x s) (w := fun m => dR m x s) (fun N => q_ms x s N (.int (dC (M.1 0) x s))) _ (fun _ => rfl) (fun _ => rfl) (fun hx hs h0 => dR_eq h.1.1 h.1.2.1 hs (Or.inr (Or.inr ⟨hx, h0⟩))) |> fun z => by
    obtain ⟨k, M1, b, M2, z1, z2⟩ := z
    exact ⟨k, M1, b, M2, z1, z2⟩
theorem ag_subtree (h : WR M) (x s : Int32) : Agr e13 (f_subtree x s) (fr_subtree x s) M :=
  ag_ms h x s (v := stC (M.1 0) x s) (g := fun m => wfR m s) (w := fun m => soR m x s) (fun N => q_ms x s N (.int (stC (M.1 0) x s))) _ (fun _ => rfl) (fun _ => rfl) (fun hx hs h0 => ⟨wfR_eq h.1.1 h.1.2.1 hs, so_eq h.1 hx h0 hs⟩) |> fun z => by
    obtain ⟨k, M1, b, M2, z1, z2⟩ := z
    exact ⟨k, M1, b, M2, z1, z2⟩
theorem ag_member (h : WR M) (x w : Int32) : Agr e12 (f_member x w) (fr_member x w) M := by
  by_cases hx : bM x = true
  · exact Agr_x h (E := k_IOE) (k := 1) (by unfold f_member; rw [if_pos hx]) rfl (by decide) (by unfold fr_member; rw [if_pos hx]; exact qG_x (by decide) _ _ _)
  · by_cases hw : bR w 0 9 = true
    · exact Agr_x h (E := k_IAE) (k := 2) (by unfold f_member; rw [if_neg hx, if_pos hw]) rfl (by decide) (by unfold fr_member; rw [if_neg hx, if_pos hw]; exact qG_x (by decide) _ _ _)
    · refine Agr_q h (v := vC (M.1 0) x w) (by unfold f_member; rw [if_neg hx, if_neg hw]) (fun M1 e1 => ?_)
      unfold fr_member
      rw [e1, if_neg hx, if_neg hw, mo_eq h.1 (by simpa using hx) (by simpa using hw)]
      exact qG_in rfl
theorem ag_child (h : WR M) (x s i : Int32) : Agr e123 (f_child x s i) (fr_child x s i) M := by
  by_cases hx : ¬ x = 100 ∧ bM x = true
  · exact Agr_x h (E := k_IOE) (k := 1) (by unfold f_child; rw [if_pos hx]) rfl (by decide) (by unfold fr_child; rw [if_pos hx]; exact qG_x (by decide) _ _ _)
  · by_cases hs : bS s = true
    · exact Agr_x h (E := k_IOE) (k := 1) (by unfold f_child; rw [if_neg hx, if_pos hs]) rfl (by decide) (by unfold fr_child; rw [if_neg hx, if_pos hs]; exact qG_x (by decide) _ _ _)
    · have hs' : bS s = false := by simpa using hs
      by_cases hi : 0 ≤ i
      · by_cases hj : ¬ x = 100 ∧ ¬ jnC (M.1 0) x = true
        · have hx' : bM x = false := by
            by_cases q : bM x = false
            · exact q
            · exact absurd ⟨hj.1, bMt q⟩ hx
          have hj' : ¬ x = 100 ∧ jR (M.1 2) x = false := ⟨hj.1, by rw [jn_c h hx']; simpa using hj.2⟩
          exact Agr_x h (E := k_ISE) (k := 3) (by unfold f_child; rw [if_neg hx, if_neg hs, if_neg (fun q => q hi), if_pos hj]) rfl (by decide) (by unfold fr_child; rw [if_neg hx, if_neg hs, if_neg (fun q => q hi), if_pos hj']; exact qG_x (by decide) _ _ _)
        · have hj' : ¬ (¬ x = 100 ∧ jR (M.1 2) x = false) := fun q => by
            have hx' : bM x = false := by
              by_cases z : bM x = false
              · exact z
              · exact absurd ⟨q.1, bMt z⟩ hx
            rw [jn_c h hx'] at q
            exact hj ⟨q.1, by simp [q.2]⟩
          have ha : ¬ x = -1 := by
            rintro rfl
            exact hx ⟨by decide, bM_m1⟩
          refine Agr_q h (v := caC (M.1 0) x s i) (by unfold f_child; rw [if_neg hx, if_neg hs, if_neg (fun q => q hi), if_neg hj]) (fun M1 e1 => ?_)
          unfold fr_child
          rw [e1, if_neg hx, if_neg hs, if_neg (fun q => q hi), if_neg hj', ca_eq h.1 i ha hs']
          exact qG_in rfl
      · exact Agr_x h (E := k_IAE) (k := 2) (by unfold f_child; rw [if_neg hx, if_neg hs, if_pos hi]) rfl (by decide) (by unfold fr_child; rw [if_neg hx, if_neg hs, if_pos hi]; exact qG_x (by decide) _ _ _)
theorem qZ_in {b g : Bool} {M : Mm} (hg : g = true) : qZ 0 g b M = some (.inl (some (.int (bI b)), kc M 0)) := qG_in hg
theorem qZ_x {k : Int32} (hk : ¬ k = 0) (g b : Bool) (M : Mm) : qZ k g b M = some (.inl (some (.int 0), kc M k)) := qG_x hk g (bI b) M
theorem ag_hasRoom (h : WR M) (x s : Int32) : Agr e13 (f_hasRoom x s) (fr_hasRoom x s) M := by
  by_cases hx : ¬ x = 100 ∧ bM x = true
  · exact Agr_x h (E := k_IOE) (k := 1) (by unfold f_hasRoom; rw [if_pos hx]) rfl (by decide) (by unfold fr_hasRoom cdPS; rw [if_pos hx]; exact qZ_x (by decide) _ _ _)
  · by_cases hs : bS s = true
    · exact Agr_x h (E := k_IOE) (k := 1) (by unfold f_hasRoom; rw [if_neg hx, if_pos hs]) rfl (by decide) (by unfold fr_hasRoom cdPS; rw [if_neg hx, if_pos hs]; exact qZ_x (by decide) _ _ _)
    · have hs' : bS s = false := by simpa using hs
      by_cases h1 : x = 100
      · refine Agr_q h (v := bI (rmC (M.1 0) x s)) (by unfold f_hasRoom; rw [if_neg hx, if_neg hs, if_neg (fun q => q.1 h1)]) (fun M1 e1 => ?_)
        unfold fr_hasRoom cdPS
        rw [e1, if_neg hx, if_neg hs, if_pos h1, rmR_eq h.1.1 h.1.2.1 h.1.2.2.1 hs' (Or.inl h1)]
        exact qZ_in (by simp [h1])
      · have hx' : bM x = false := by
          by_cases q : bM x = false
          · exact q
          · exact absurd ⟨h1, bMt q⟩ hx
        by_cases hj : jnC (M.1 0) x = true
        · have h0 : vC (M.1 0) x 0 = 1 := by simpa [jnC] using hj
          refine Agr_q h (v := bI (rmC (M.1 0) x s)) (by unfold f_hasRoom; rw [if_neg hx, if_neg hs, if_neg (fun q => q.2 hj)]) (fun M1 e1 => ?_)
          unfold fr_hasRoom cdPS
          rw [e1, if_neg hx, if_neg hs, if_neg h1, jn_c h hx', if_pos hj, rmR_eq h.1.1 h.1.2.1 h.1.2.2.1 hs' (Or.inr ⟨hx', h0⟩), (dR_eq h.1.1 h.1.2.1 hs' (Or.inr (Or.inr ⟨hx', h0⟩))).1]
          exact qZ_in (by simp)
        · exact Agr_x h (E := k_ISE) (k := 2) (by unfold f_hasRoom; rw [if_neg hx, if_neg hs, if_pos ⟨h1, hj⟩]) rfl (by decide) (by unfold fr_hasRoom cdPS; rw [if_neg hx, if_neg hs, if_neg h1, jn_c h hx', if_neg hj]; exact qZ_x (by decide) _ _ _)
theorem ag_ranksBefore (h : WR M) (x y s : Int32) : Agr e123 (f_ranksBefore x y s) (fr_ranksBefore x y s) M := by
  by_cases hx : bM x = true
  · exact Agr_x h (E := k_IOE) (k := 1) (by unfold f_ranksBefore; rw [if_pos hx]) rfl (by decide) (by unfold fr_ranksBefore; rw [if_pos hx]; exact qZ_x (by decide) _ _ _)
  · by_cases hy : bM y = true
    · exact Agr_x h (E := k_IOE) (k := 1) (by unfold f_ranksBefore; rw [if_neg hx, if_pos hy]) rfl (by decide) (by unfold fr_ranksBefore; rw [if_neg hx, if_pos hy]; exact qZ_x (by decide) _ _ _)
    · by_cases hs : bS s = true
      · exact Agr_x h (E := k_IOE) (k := 1) (by unfold f_ranksBefore; rw [if_neg hx, if_neg hy, if_pos hs]) rfl (by decide) (by unfold fr_ranksBefore; rw [if_neg hx, if_neg hy, if_pos hs]; exact qZ_x (by decide) _ _ _)
      · by_cases he : x = y
        · exact Agr_x h (E := k_IAE) (k := 2) (by unfold f_ranksBefore; rw [if_neg hx, if_neg hy, if_neg hs, if_pos he]) rfl (by decide) (by unfold fr_ranksBefore; rw [if_neg hx, if_neg hy, if_neg hs, if_pos he]; exact qZ_x (by decide) _ _ _)
        · have hx' : bM x = false := by simpa using hx
          have hy' : bM y = false := by simpa using hy
          by_cases hj : jnC (M.1 0) x = true
          · by_cases hk : jnC (M.1 0) y = true
            · refine Agr_q h (v := bI (beC (M.1 0) x y s)) (by unfold f_ranksBefore; rw [if_neg hx, if_neg hy, if_neg hs, if_neg he, if_neg (fun q => q hj), if_neg (fun q => q hk)]) (fun M1 e1 => ?_)
              unfold fr_ranksBefore
              rw [e1, if_neg hx, if_neg hy, if_neg hs, if_neg he, jn_c h hx', jn_c h hy', if_neg (by simp [hj]), if_neg (by simp [hk]), ahR_eq h.1.2.1 s hx' (by simpa [jnC] using hj) hy' (by simpa [jnC] using hk)]
              exact qZ_in rfl
            · exact Agr_x h (E := k_ISE) (k := 3) (by unfold f_ranksBefore; rw [if_neg hx, if_neg hy, if_neg hs, if_neg he, if_neg (fun q => q hj), if_pos hk]) rfl (by decide) (by unfold fr_ranksBefore; rw [if_neg hx, if_neg hy, if_neg hs, if_neg he, jn_c h hx', jn_c h hy', if_neg (by simp [hj]), if_pos (by simpa using hk)]; exact qZ_x (by decide) _ _ _)
          · exact Agr_x h (E := k_ISE) (k := 3) (by unfold f_ranksBefore; rw [if_neg hx, if_neg hy, if_neg hs, if_neg he, if_pos hj]) rfl (by decide) (by unfold fr_ranksBefore; rw [if_neg hx, if_neg hy, if_neg hs, if_neg he, jn_c h hx', if_pos (by simpa using hj)]; exact qZ_x (by decide) _ _ _)
theorem ag_harm (h : WR M) (x : Int32) : Agr e13 (f_harm x) (fr_harm x) M := by
  by_cases hx : bM x = true
  · exact Agr_x h (E := k_IOE) (k := 1) (by unfold f_harm; rw [if_pos hx]) rfl (by decide) (by unfold fr_harm cdM; rw [if_pos hx]; exact qG_x (by decide) _ _ _)
  · have hx' : bM x = false := by simpa using hx
    by_cases hj : jnC (M.1 0) x = true
    · refine Agr_q h (v := haC (M.1 0) x) (by unfold f_harm; rw [if_neg hx, if_pos hj]) (fun M1 e1 => ?_)
      unfold fr_harm cdM
      rw [e1, if_neg hx, jn_c h hx', if_pos hj, ho_eq h.1 hx' (by simpa [jnC] using hj)]
      exact qG_in (wA_eq h.1.1 h.1.2.1)
    · exact Agr_x h (E := k_ISE) (k := 2) (by unfold f_harm; rw [if_neg hx, if_neg hj]) rfl (by decide) (by unfold fr_harm cdM; rw [if_neg hx, jn_c h hx', if_neg hj]; exact qG_x (by decide) _ _ _)
theorem ag_pieces (h : WR M) (x : Int32) : Agr e13 (f_pieces x) (fr_pieces x) M := by
  by_cases hx : bM x = true
  · exact Agr_x h (E := k_IOE) (k := 1) (by unfold f_pieces; rw [if_pos hx]) rfl (by decide) (by unfold fr_pieces cdM; rw [if_pos hx]; exact qG_x (by decide) _ _ _)
  · have hx' : bM x = false := by simpa using hx
    by_cases hj : jnC (M.1 0) x = true
    · have hg : Gd (M.1 0) x := Or.inr (Or.inr ⟨hx', by simpa [jnC] using hj⟩)
      refine Agr_q h (v := pcC (M.1 0) x) (by unfold f_pieces; rw [if_neg hx, if_pos hj]) (fun M1 e1 => ?_)
      unfold fr_pieces cdM
      rw [e1, if_neg hx, jn_c h hx', if_pos hj, prR_eq h.1 hg]
      exact qG_in (okA_eq h.1.1 h.1.2.1 hg)
    · exact Agr_x h (E := k_ISE) (k := 2) (by unfold f_pieces; rw [if_neg hx, if_neg hj]) rfl (by decide) (by unfold fr_pieces cdM; rw [if_neg hx, jn_c h hx', if_neg hj]; exact qG_x (by decide) _ _ _)
theorem ag_stripe (h : WR M) (s w : Int32) : Agr e12 (f_stripe s w) (fr_stripe s w) M := by
  by_cases hs : bS s = true
  · exact Agr_x h (E := k_IOE) (k := 1) (by unfold f_stripe; rw [if_pos hs]) rfl (by decide) (by unfold fr_stripe; rw [if_pos hs]; exact qG_x (by decide) _ _ _)
  · have hs' : bS s = false := by simpa using hs
    by_cases hw : bR w 0 5 = true
    · exact Agr_x h (E := k_IAE) (k := 2) (by unfold f_stripe; rw [if_neg hs, if_pos hw]) rfl (by decide) (by unfold fr_stripe; rw [if_neg hs, if_pos hw]; exact qG_x (by decide) _ _ _)
    · refine Agr_q h (v := siC (M.1 0) s w) (by unfold f_stripe; rw [if_neg hs, if_neg hw]) (fun M1 e1 => ?_)
      unfold fr_stripe
      rw [e1, if_neg hs, if_neg hw, str_eq h.1 hs']
      exact qG_in (wfR_eq h.1.1 h.1.2.1 hs')
theorem ag_count (h : WR M) (w : Int32) : Agr e2 (f_count w) (fr_count w) M := by
  by_cases hw : bR w 0 7 = true
  · exact Agr_x h (E := k_IAE) (k := 1) (by unfold f_count; rw [if_pos hw]) rfl (by decide) (by unfold fr_count; rw [if_pos hw]; exact qG_x (by decide) _ _ _)
  · refine Agr_q h (v := figC (M.1 0) w) (by unfold f_count; rw [if_neg hw]) (fun M1 e1 => ?_)
    unfold fr_count
    rw [e1, if_neg hw, ct_eq h.1 (by simpa using hw)]
    exact qG_in rfl
theorem unN_L (P : Mm) (j : Nat) (v : Int64) (n : Nat) : (unN (k_uL P j v) n).1 = (unN P n).1 := rfl
theorem unN_2 (P : Mm) (n : Nat) : (unN P n).2 = P.2 := rfl
theorem unN_43 (P : Mm) (n : Nat) : (unN P n).1 4 3 = 0 := by
  unfold unN
  rw [k_r2_n _ _ (by decide)]
  simp [k_up, kc, upd]
theorem poM_42 (M : Mm) : (poM M).1 4 2 = M.1 4 2 := by
  unfold poM poN
  split <;> rfl
theorem ag_undo (h : WR M) : Agr e3 f_undo fr_undo M := by
  have hb := WR_bR h
  obtain ⟨n, t, w⟩ := h.2
  cases n with
  | zero =>
    have e0 : M.1 4 0 = 0 := w.2.2.1
    have e2 : M.1 4 2 = 0 := w.2.2.2.1
    exact Agr_x h (E := k_ISE) (k := 1) (by unfold f_undo; rw [if_pos e0]) rfl (by decide) (by unfold fr_undo; rw [if_pos hb, if_pos e2])
  | succ n =>
    have hn := w.1
    have e0 : M.1 4 0 = nI (n + 1) := w.2.2.1
    have e2 : M.1 4 2 = nI (n + 1) := w.2.2.2.1
    have ne : ¬ nI (n + 1) = 0 := nI_ne0 (by omega) (by omega)
    obtain ⟨-, p2, -⟩ := poM_eq w.2.1 e0 w.2.2.2.2.1
    have pv : (poM M).1 4 0 = nI n := by
      have : (poM M).1 4 0 = (poN M).1 4 0 := by
        unfold poM
        split <;> rfl
      rw [this]
      exact p2
    have f4 : (k_uL (poM M) 1 (nI n).toInt64).1 4 2 = nI (n + 1) := by rw [k_uL_1, poM_42]; exact e2
    refine ⟨0, k_uL (poM M) 1 (nI n).toInt64, nI n, unN (k_uL (poM M) 1 (nI n).toInt64) n, ?_, ?_, unN_43 _ _, fun _ => ?_, WR_L (WR_un w) (unN_L _ _ _ _)⟩
    · unfold f_undo
      rw [if_neg (by rw [e0]; exact ne), pv]
      rfl
    · unfold fr_undo
      have hbn : bR (nI (n + 1)) 0 4 = false := bR_n (n := 4) (by omega) (by omega)
      rw [f4, if_pos hbn, if_neg ne, nI_pred, nI_clamp (by omega)]
    · rw [unN_2]
      exact uL_1 _ _
theorem ag_repair (h : WR M) : ∃ v M1 M2, f_repair M = some (.inl (some (.int v), M1)) ∧ fr_repair M1 = some (.inl (some (.int v), M2)) ∧ WR M2 := by
  obtain ⟨m', g1, g2⟩ := op_repair h.1
  obtain ⟨p2, p3, p4, pL⟩ := psM_r M
  have hb := WR_bR h
  obtain ⟨w1, w2, w3⟩ := WR_ke h g2 (M1 := k_r0 (psM M) (aoC (M.1 0))) rfl
  refine ⟨_, _, _, rfl, ?_, w1⟩
  unfold fr_repair
  refine qK_in ?_ ?_
  · rw [k_r0_n _ _ (by decide), p2]
    exact g1
  · rw [k_r0_n _ _ (by decide), p4]
    exact hb
theorem ag_time (h : WR M) : ∃ v M1 M2, f_time M = some (.inl (some (.int v), M1)) ∧ fr_time M1 = some (.inl (some (.int v), M2)) ∧ WR M2 := by
  refine ⟨_, M, kc M 0, rfl, ?_, WR_kc h 0⟩
  unfold fr_time
  rw [h.1.2.2.2.2.1]
theorem ag_digest (h : WR M) : ∃ v M1 M2, f_digest M = some (.inl (some (.long v), M1)) ∧ fr_digest M1 = some (.inl (some (.long v), M2)) ∧ WR M2 := by
  obtain ⟨n, t, w⟩ := h.2
  refine ⟨_, M, _, rfl, ?_, WR_L (WR_kc h 0) (kL_1 _ (diR (M.1 4 2) (M.1 2)))⟩
  unfold fr_digest
  rw [if_pos (wA_eq h.1.1 h.1.2.1), w.2.2.1, w.2.2.2.1, di_eq h.1]
end AH

/-! a new object -/
theorem k0_lo {t : Nat} (h : t < 320) : k_c0 t = 0 := by
  unfold k_c0
  rw [pk_un (by omega), pk_un (by omega)]
  unfold k_cj
  rw [if_neg (by omega)]
theorem k0_mi {t : Nat} (h : 320 ≤ t) (h2 : t < 448) : k_c0 t = -1 := by
  unfold k_c0
  rw [pk_un (by omega), pk_un (by omega)]
  unfold k_cj
  rw [if_pos ⟨h, h2⟩]
theorem k0_v (x w : Int32) : vC k_c0 x w = 0 := by
  by_cases hx : bM x = false
  · by_cases hw : bV w = false
    · rw [vC_in hx hw]
      obtain ⟨i, hi, rfl⟩ := bM_of hx
      obtain ⟨j, hj, rfl⟩ := bV_of hw
      rw [ix_v hi hj]
      exact k0_lo (by omega)
    · exact vC_out (Or.inr (bVt hw))
  · exact vC_out (Or.inl (bMt hx))
theorem k0_p (x s : Int32) : pC k_c0 x s = -1 := by
  by_cases hx : bM x = false
  · by_cases hs : bS s = false
    · rw [pC_in hx hs]
      obtain ⟨i, hi, rfl⟩ := bM_of hx
      obtain ⟨j, hj, rfl⟩ := bS_of hs
      rw [ix_p hi hj]
      exact k0_mi (by omega) (by omega)
    · exact pC_out (Or.inr (bSt hs))
  · exact pC_out (Or.inl (bMt hx))
theorem k0_N (f : Nat → Bool) (h : ∀ i, f i = false) (n : Nat) : cN f n = 0 := by
  induction n with
  | zero => rfl
  | succ n ih =>
    show cN f n + _ = 0
    rw [ih, h n]
    rfl
theorem k0_cnt {y : Int32} (hy : bM y = false) (s : Int32) : cnt k_c0 y s = 0 := by
  refine k0_N _ (fun i => ?_) 32
  rw [k0_p]
  refine decide_eq_false (fun h => ?_)
  rw [← h, bM_m1] at hy
  cases hy
theorem k0_tot {y : Int32} (hy : bM y = false) : tot k_c0 y = 0 := by
  unfold tot
  rw [k0_cnt hy, k0_cnt hy, k0_cnt hy, k0_cnt hy]
theorem k0_Iv : Iv (fun _ => 1) k_c0 := by
  refine ⟨fun x _ => Or.inl (k0_v x 0), fun x _ _ => ⟨k0_v x, k0_p x⟩, fun x s => Or.inl (k0_p x s), fun x _ h => ?_, fun y hy => ⟨?_, fun _ h => ?_, fun s _ h => absurd (k0_cnt hy s) h⟩, fun s hs x hx => ⟨1, -1, Or.inr rfl, hx, k0_p x s⟩, ?_, 3, by omega, by omega, by decide +kernel⟩
  · rw [k0_v] at h
    exact absurd h (by decide)
  · rw [k0_v, k0_tot hy]
    rfl
  · rw [k0_v] at h
    exact absurd h (by decide)
  · rw [k0_N _ (fun i => by rw [k0_v]; rfl) 32]
    decide +kernel
theorem k0_c100 (s : Int32) : cnt k_c0 100 s = 0 := by
  refine k0_N _ (fun i => ?_) 32
  rw [k0_p]
  decide
theorem k0_Jv : Jv 2 0 k_c0 := by
  refine ⟨⟨k0_Iv, ⟨fun y _ h => ?_, 2, by omega, by omega, by decide +kernel, fun s _ => ?_⟩, ⟨by decide +kernel, fun y _ h => ?_⟩, fun i _ _ => k0_v _ _⟩, by decide +kernel, by decide +kernel⟩
  · rw [k0_v] at h
    exact absurd h (by decide)
  · rw [k0_c100]
    omega
  · rw [k0_v] at h
    exact absurd h (by decide)
def k_M0 : Mm := (fun r => match r with
  | 0 => k_c0
  | _ => fun _ => 0, fun _ => 0)
theorem k0_LI : LI 2 0 k_M0 := ⟨k0_Jv, by omega, 0, 0, by omega, by omega, rfl, rfl⟩
/-- the state of the law before the turn n -/
def k_TT (ad : Nat → Nat) (b n : Nat) : Tr := fun Lc st M => ∃ (F T : Nat) (g4 g5 g6 g7 g8 g9 g10 g11 g12 : Option Value), LI F T M ∧ T ≤ 12 * n ∧ st = [] ∧ Lc = lL ad b (nI F) (nI n) g4 g5 g6 g7 g8 g9 g10 g11 g12
theorem HK_TT (ad : Nat → Nat) (b n : Nat) : HK ad b n (k_TT ad b (n + 1)) := fun F T M h hT g4 g5 g6 g7 g8 g9 g10 g11 g12 => ⟨F, T, g4, g5, g6, g7, g8, g9, g10, g11, g12, h, hT, rfl, rfl⟩

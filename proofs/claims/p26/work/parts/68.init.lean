/-! printed by wip/p26/geninit.py: the constructors -/
def k_cj (j : Nat) : Nat → Int32 := fun t => if 320 ≤ t ∧ t < j then -1 else 0
theorem k_cj_0 : k_cj 320 = fun _ => 0 := by
  funext t
  unfold k_cj
  rw [if_neg (by omega)]
theorem k_cj_s {j : Nat} (h : 320 ≤ j) : upd (k_cj j) j (-1) = k_cj (j + 1) := by
  funext t
  simp only [upd, k_cj]
  by_cases h1 : t = j
  · subst h1
    rw [if_pos rfl, if_pos ⟨h, by omega⟩]
  · rw [if_neg h1]
    by_cases h2 : 320 ≤ t ∧ t < j
    · rw [if_pos h2, if_pos ⟨h2.1, by omega⟩]
    · rw [if_neg h2, if_neg (fun q => h2 ⟨q.1, by omega⟩)]
def k_c0 : Nat → Int32 := upd (upd (k_cj 448) 457 2) 458 3
set_option maxHeartbeats 4000000 in
set_option maxRecDepth 100000 in
theorem ci_X0 (l : Launch) (D : va_G) (h0 sz : Nat) : Met l yX0_init (Cond.code yX0_init cX0_init 2 none :: k_G) ({ frames := 1, cells := 1, slots := 459, locals := 12 }) (va_Pc [.ref h0] (fun U => U.heap.size = sz ∧ va_P D vwCl [(h0, .inr (0, [.null]))] U.heap ∧ va_K D vwCl [] U ∧ va_D (fun _ => True) [(h0, .inr (0, [.null]))])) (va_Qv (fun _ : Nat × ClassId => True) (fun u t => va_P D vwCl [(h0, .inr (0, [.ref u.1])), (u.1, .inl (u.2, 459, .inl k_c0))] t.heap ∧ va_K D vwCl [(u.2, .int)] t ∧ va_D (va_A [(h0, .inr (0, [.null]))] sz) [(h0, .inr (0, [.ref u.1])), (u.1, .inl (u.2, 459, .inl k_c0))]) (va_A [(h0, .inr (0, [.null]))] sz)) 1 459 (va_A [(h0, .inr (0, [.null]))] sz) := by
  refine Met.ofW (cc := cX0_init) (maxL := 2) (ret := none) (by decide +kernel) rfl ?_
  intro p e s m args below meth c s₁ B hml hv
  obtain ⟨rfl, hsz, hP, hK, hD0⟩ := hv
  have hx := B.exec
  have hb := B.bytes
  have hr := B.returns
  have hts : ∀ w ∈ k_G, w.before _ s = true := fun w hw => atoms_spec (ws := Cond.code yX0_init cX0_init 2 none :: k_G) B.pre w (List.mem_cons_of_mem _ hw)
  have hown : s.vm.findClass RX0 = some m.cls := findClass_of_methodNamed B.named
  have hlocks := B.notSynchronized
  have hin : meth.name = "<init>" := (name_of_methodNamed B.named B.method).1
  subst hsz
  have hD := hD0.self (sz := s.heap.size)
  generalize hAe : va_A [(h0, .inr (0, [.null]))] s.heap.size = A at hD ⊢
  have hA : ∀ q : Nat, s.heap.size ≤ q → A q := fun q h => by rw [← hAe]; exact Or.inr h
  have hS : va_S A s.heap s.heap [] := va_S.rf
  replace hP : va_P D vwCl [(h0, .inr (0, [.null]))] s.heap := hP
  have hl := lv_entry ([.ref h0]) (n := 2) (Nat.le_of_ble_eq_true rfl)
  rw [lg_entry_eq]
  generalize (lg_sl ([.ref h0]) ++ List.replicate (2 - (lg_sl ([.ref h0])).length) Slot.unset).toArray = ls at hl ⊢
  have hl : lv_has ls 2 [(0, .ref h0)] := hl
  refine lv_aload_n hx hb dX0_init_0 rfl (lv_at hl 0 rfl) ?_
  refine W.objInit hx hb hown (hts _ (k_gm 44 (by decide +kernel) (by decide +kernel))) (hts _ (k_gm 31 (by decide +kernel) (by decide +kernel))) (hts _ (k_gm 32 (by decide +kernel) (by decide +kernel))) rfl (by rw [hml]; exact hl.1) rfl dX0_init_1 (Nat.le_of_ble_eq_true rfl) (Nat.le_of_ble_eq_true rfl) ?_
  refine W.eq (g2 := F0 m 4 ls []) rfl ?_
  refine lv_aload_n hx hb dX0_init_4 rfl (lv_at hl 0 rfl) ?_
  refine lv_sipush (v := 459) hx hb dX0_init_5 (by decide) ?_
  refine va_newa (atype := .int) (ty := .int) (a0 := (459, .inl (fun _ => 0))) (N' := 459) hx hb (hts _ (k_gm 49 (by decide +kernel) (by decide +kernel))) rfl hK hP hD hS hA (fun _ => rfl) (by decide) (by decide) (Nat.le_of_ble_eq_true rfl) (Nat.le_of_ble_eq_true rfl) (Nat.le_of_ble_eq_true rfl) dX0_init_8 (fun q cA H hK hP hD hS => ?_)
  refine W.widen (k := 1) (n := 459) (Nat.le_of_ble_eq_true rfl) (Nat.le_of_ble_eq_true rfl) ?_
  replace hP : va_P D vwCl [(h0, .inr (0, [.null])), (q, .inl (cA, 459, .inl (fun _ => 0)))] H := hP
  replace hD : va_D A [(h0, .inr (0, [.null])), (q, .inl (cA, 459, .inl (fun _ => 0)))] := hD
  replace hK : va_K D vwCl [(cA, .int)] s := hK
  refine va_putF (D := D) (ci := 0) (v := .ref q) (ty := .array .int) (C := RX0) (T := TX0) (N := 1) hx hb hts k_inX0 tyX0 tyX0_ok nmX0 hown hK hP hD hS 0 rfl rfl 0 (by decide) (hts _ (k_gm 45 (by decide +kernel) (by decide +kernel))) (fun _ h9 => h9) rfl hin rfl (by decide +kernel) rfl rfl (Nat.le_of_ble_eq_true rfl) dX0_init_10 (fun H locs hP hD hS => ?_)
  replace hP : va_P D vwCl [(h0, .inr (0, [.ref q])), (q, .inl (cA, 459, .inl (fun _ => 0)))] H := hP
  replace hD : va_D A [(h0, .inr (0, [.ref q])), (q, .inl (cA, 459, .inl (fun _ => 0)))] := hD
  rw [← k_cj_0] at hP hD
  refine lv_sipush (v := 320) hx hb dX0_init_13 (by decide) ?_
  refine lv_istore_n (lv' := [(1, .int (nI 320)), (0, .ref h0)]) hx hb dX0_init_16 rfl hl (by decide) rfl (fun ls hl => ?_)
  replace hl : lv_has ls 2 [(1, .int (nI 320)), (0, .ref h0)] := hl
  obtain ⟨n, hj⟩ : ∃ n, 320 + n = 448 := ⟨128, rfl⟩
  have hj2 : 320 ≤ 320 := Nat.le_refl _
  generalize hj0 : (320 : Nat) = j at hj hP hD hl
  rw [show (320 ≤ 320) = (320 ≤ j) by rw [← hj0]] at hj2
  clear hj0
  induction n generalizing j H locs ls with
    | zero =>
      have hj4 : j = 448 := by omega
      subst hj4
      refine lv_iload_n hx hb dX0_init_17 rfl (lv_at hl 0 rfl) ?_
      refine lv_sipush (v := 448) hx hb dX0_init_18 (by decide) ?_
      refine lv_icmp_ge (tgt := 37) hx hb dX0_init_21 (by decide) (fun c1 => ?_) (fun c1 => absurd (by decide) c1)
      refine lv_aload_n hx hb dX0_init_37 rfl (lv_at hl 1 rfl) ?_
      refine va_get (D := D) (ci := 0) (v := .ref q) (C := RX0) (T := TX0) (N := 1) hx hb hts k_inX0 hown hK hP 0 rfl rfl 0 (by decide) (hts _ (k_gm 45 (by decide +kernel) (by decide +kernel))) (fun _ h9 => h9) rfl dX0_init_38 ?_
      refine lv_sipush (v := 457) hx hb dX0_init_41 (by decide) ?_
      refine lv_iconst (v := 2) hx hb dX0_init_44 (by decide) ?_
      refine va_iast hx hb hK hP hD hS 1 0 rfl rfl (show vp_in 457 459 from vp_in_nI (n := 457) (by omega) (by omega)) dX0_init_45 (fun H locs hP hD hS => ?_)
      replace hP : va_P D vwCl [(h0, .inr (0, [.ref q])), (q, .inl (cA, 459, .inl (upd (k_cj 448) 457 2)))] H := hP
      replace hD : va_D A [(h0, .inr (0, [.ref q])), (q, .inl (cA, 459, .inl (upd (k_cj 448) 457 2)))] := hD
      refine lv_aload_n hx hb dX0_init_46 rfl (lv_at hl 1 rfl) ?_
      refine va_get (D := D) (ci := 0) (v := .ref q) (C := RX0) (T := TX0) (N := 1) hx hb hts k_inX0 hown hK hP 0 rfl rfl 0 (by decide) (hts _ (k_gm 45 (by decide +kernel) (by decide +kernel))) (fun _ h9 => h9) rfl dX0_init_47 ?_
      refine lv_sipush (v := 458) hx hb dX0_init_50 (by decide) ?_
      refine lv_iconst (v := 3) hx hb dX0_init_53 (by decide) ?_
      refine va_iast hx hb hK hP hD hS 1 0 rfl rfl (show vp_in 458 459 from vp_in_nI (n := 458) (by omega) (by omega)) dX0_init_54 (fun H locs hP hD hS => ?_)
      replace hP : va_P D vwCl [(h0, .inr (0, [.ref q])), (q, .inl (cA, 459, .inl k_c0))] H := hP
      replace hD : va_D A [(h0, .inr (0, [.ref q])), (q, .inl (cA, 459, .inl k_c0))] := hD
      exact W.vret hx hb hr (fun t ht hW => ⟨⟨(q, cA), rfl, trivial, by rw [ht]; exact hP, va_K.moved hW.alike hK, hD⟩, hS.F ht⟩) hS.2.2 dX0_init_55
    | succ n ih =>
      refine lv_iload_n hx hb dX0_init_17 rfl (lv_at hl 0 rfl) ?_
      refine lv_sipush (v := 448) hx hb dX0_init_18 (by decide) ?_
      refine lv_icmp_ge (tgt := 37) hx hb dX0_init_21 (by decide) (fun c1 => ?_) (fun c1 => ?_)
      · exfalso
        have c2 : nI 448 ≤ nI j := c1
        rw [nI_leI (by omega) (by omega)] at c2
        omega
      · refine lv_aload_n hx hb dX0_init_24 rfl (lv_at hl 1 rfl) ?_
        refine va_get (D := D) (ci := 0) (v := .ref q) (C := RX0) (T := TX0) (N := 1) hx hb hts k_inX0 hown hK hP 0 rfl rfl 0 (by decide) (hts _ (k_gm 45 (by decide +kernel) (by decide +kernel))) (fun _ h9 => h9) rfl dX0_init_25 ?_
        refine lv_iload_n hx hb dX0_init_28 rfl (lv_at hl 0 rfl) ?_
        refine lv_iconst (v := -1) hx hb dX0_init_29 (by decide) ?_
        refine va_iast hx hb hK hP hD hS 1 0 rfl rfl (vp_in_nI (by omega) (by omega)) dX0_init_30 (fun H locs hP hD hS => ?_)
        replace hP : va_P D vwCl [(h0, .inr (0, [.ref q])), (q, .inl (cA, 459, .inl (upd (k_cj j) (nI j).toNatClampNeg (-1))))] H := hP
        replace hD : va_D A [(h0, .inr (0, [.ref q])), (q, .inl (cA, 459, .inl (upd (k_cj j) (nI j).toNatClampNeg (-1))))] := hD
        rw [nI_clamp (by omega), k_cj_s hj2] at hP hD
        refine lv_iinc (v := nI (j + 1)) (lv' := [(1, .int (nI (j + 1))), (0, .ref h0)]) hx hb dX0_init_31 hl (k := 0) rfl (by rw [nI_succ]; rfl) (by decide) rfl (fun ls hl => ?_)
        refine lv_goto (tgt := 17) hx hb dX0_init_34 (by decide) ?_
        apply ih (j := j + 1) <;> first | assumption | omega

set_option maxHeartbeats 4000000 in
set_option maxRecDepth 100000 in
theorem ci_X2 (l : Launch) (D : va_G) (h0 sz : Nat) : Met l yX2_init (Cond.code yX2_init cX2_init 1 none :: k_G) ({ frames := 1, cells := 1, slots := 1836, locals := 12 }) (va_Pc [.ref h0] (fun U => U.heap.size = sz ∧ va_P D vwCl [(h0, .inr (2, [.null, .int 0, .int 0]))] U.heap ∧ va_K D vwCl [] U ∧ va_D (fun _ => True) [(h0, .inr (2, [.null, .int 0, .int 0]))])) (va_Qv (fun _ : Nat × ClassId => True) (fun u t => va_P D vwCl [(h0, .inr (2, [.ref u.1, .int 0, .int 0])), (u.1, .inl (u.2, 1836, .inl (fun _ => 0)))] t.heap ∧ va_K D vwCl [(u.2, .int)] t ∧ va_D (va_A [(h0, .inr (2, [.null, .int 0, .int 0]))] sz) [(h0, .inr (2, [.ref u.1, .int 0, .int 0])), (u.1, .inl (u.2, 1836, .inl (fun _ => 0)))]) (va_A [(h0, .inr (2, [.null, .int 0, .int 0]))] sz)) 1 1836 (va_A [(h0, .inr (2, [.null, .int 0, .int 0]))] sz) := by
  refine Met.ofW (cc := cX2_init) (maxL := 1) (ret := none) (by decide +kernel) rfl ?_
  intro p e s m args below meth c s₁ B hml hv
  obtain ⟨rfl, hsz, hP, hK, hD0⟩ := hv
  have hx := B.exec
  have hb := B.bytes
  have hr := B.returns
  have hts : ∀ w ∈ k_G, w.before _ s = true := fun w hw => atoms_spec (ws := Cond.code yX2_init cX2_init 1 none :: k_G) B.pre w (List.mem_cons_of_mem _ hw)
  have hown : s.vm.findClass RX2 = some m.cls := findClass_of_methodNamed B.named
  have hlocks := B.notSynchronized
  have hin : meth.name = "<init>" := (name_of_methodNamed B.named B.method).1
  subst hsz
  have hD := hD0.self (sz := s.heap.size)
  generalize hAe : va_A [(h0, .inr (2, [.null, .int 0, .int 0]))] s.heap.size = A at hD ⊢
  have hA : ∀ q : Nat, s.heap.size ≤ q → A q := fun q h => by rw [← hAe]; exact Or.inr h
  have hS : va_S A s.heap s.heap [] := va_S.rf
  replace hP : va_P D vwCl [(h0, .inr (2, [.null, .int 0, .int 0]))] s.heap := hP
  have hl := lv_entry ([.ref h0]) (n := 1) (Nat.le_of_ble_eq_true rfl)
  rw [lg_entry_eq]
  generalize (lg_sl ([.ref h0]) ++ List.replicate (1 - (lg_sl ([.ref h0])).length) Slot.unset).toArray = ls at hl ⊢
  have hl : lv_has ls 1 [(0, .ref h0)] := hl
  refine lv_aload_n hx hb dX2_init_0 rfl (lv_at hl 0 rfl) ?_
  refine W.objInit hx hb hown (hts _ (k_gm 60 (by decide +kernel) (by decide +kernel))) (hts _ (k_gm 31 (by decide +kernel) (by decide +kernel))) (hts _ (k_gm 32 (by decide +kernel) (by decide +kernel))) rfl (by rw [hml]; exact hl.1) rfl dX2_init_1 (Nat.le_of_ble_eq_true rfl) (Nat.le_of_ble_eq_true rfl) ?_
  refine W.eq (g2 := F0 m 4 ls []) rfl ?_
  refine lv_aload_n hx hb dX2_init_4 rfl (lv_at hl 0 rfl) ?_
  refine lv_sipush (v := 1836) hx hb dX2_init_5 (by decide) ?_
  refine va_newa (atype := .int) (ty := .int) (a0 := (1836, .inl (fun _ => 0))) (N' := 1836) hx hb (hts _ (k_gm 49 (by decide +kernel) (by decide +kernel))) rfl hK hP hD hS hA (fun _ => rfl) (by decide) (by decide) (Nat.le_of_ble_eq_true rfl) (Nat.le_of_ble_eq_true rfl) (Nat.le_of_ble_eq_true rfl) dX2_init_8 (fun q cA H hK hP hD hS => ?_)
  refine W.widen (k := 1) (n := 1836) (Nat.le_of_ble_eq_true rfl) (Nat.le_of_ble_eq_true rfl) ?_
  replace hP : va_P D vwCl [(h0, .inr (2, [.null, .int 0, .int 0])), (q, .inl (cA, 1836, .inl (fun _ => 0)))] H := hP
  replace hD : va_D A [(h0, .inr (2, [.null, .int 0, .int 0])), (q, .inl (cA, 1836, .inl (fun _ => 0)))] := hD
  replace hK : va_K D vwCl [(cA, .int)] s := hK
  refine va_putF (D := D) (ci := 2) (v := .ref q) (ty := .array .int) (C := RX2) (T := TX2) (N := 3) hx hb hts k_inX2 tyX2 tyX2_ok nmX2 hown hK hP hD hS 0 rfl rfl 0 (by decide) (hts _ (k_gm 61 (by decide +kernel) (by decide +kernel))) (fun _ h9 => h9) rfl hin rfl (by decide +kernel) rfl rfl (Nat.le_of_ble_eq_true rfl) dX2_init_10 (fun H locs hP hD hS => ?_)
  replace hP : va_P D vwCl [(h0, .inr (2, [.ref q, .int 0, .int 0])), (q, .inl (cA, 1836, .inl (fun _ => 0)))] H := hP
  replace hD : va_D A [(h0, .inr (2, [.ref q, .int 0, .int 0])), (q, .inl (cA, 1836, .inl (fun _ => 0)))] := hD
  refine lv_aload_n hx hb dX2_init_13 rfl (lv_at hl 0 rfl) ?_
  refine lv_iconst (v := 0) hx hb dX2_init_14 (by decide) ?_
  refine va_put (D := D) (ci := 2) (v := .int 0) (ty := .int) (C := RX2) (T := TX2) (N := 3) hx hb hts k_inX2 tyX2 tyX2_ok nmX2 hown hK hP hD hS 0 rfl rfl 1 (by decide) (hts _ (k_gm 62 (by decide +kernel) (by decide +kernel))) (fun _ h9 => h9) rfl (by decide +kernel) rfl rfl (Nat.le_of_ble_eq_true rfl) dX2_init_15 (fun H locs hP hD hS => ?_)
  replace hP : va_P D vwCl [(h0, .inr (2, [.ref q, .int 0, .int 0])), (q, .inl (cA, 1836, .inl (fun _ => 0)))] H := hP
  replace hD : va_D A [(h0, .inr (2, [.ref q, .int 0, .int 0])), (q, .inl (cA, 1836, .inl (fun _ => 0)))] := hD
  refine lv_aload_n hx hb dX2_init_18 rfl (lv_at hl 0 rfl) ?_
  refine lv_iconst (v := 0) hx hb dX2_init_19 (by decide) ?_
  refine va_put (D := D) (ci := 2) (v := .int 0) (ty := .int) (C := RX2) (T := TX2) (N := 3) hx hb hts k_inX2 tyX2 tyX2_ok nmX2 hown hK hP hD hS 0 rfl rfl 2 (by decide) (hts _ (k_gm 63 (by decide +kernel) (by decide +kernel))) (fun _ h9 => h9) rfl (by decide +kernel) rfl rfl (Nat.le_of_ble_eq_true rfl) dX2_init_20 (fun H locs hP hD hS => ?_)
  replace hP : va_P D vwCl [(h0, .inr (2, [.ref q, .int 0, .int 0])), (q, .inl (cA, 1836, .inl (fun _ => 0)))] H := hP
  replace hD : va_D A [(h0, .inr (2, [.ref q, .int 0, .int 0])), (q, .inl (cA, 1836, .inl (fun _ => 0)))] := hD
  exact W.vret hx hb hr (fun t ht hW => ⟨⟨(q, cA), rfl, trivial, by rw [ht]; exact hP, va_K.moved hW.alike hK, hD⟩, hS.F ht⟩) hS.2.2 dX2_init_23

set_option maxHeartbeats 4000000 in
set_option maxRecDepth 100000 in
theorem ci_X1 (l : Launch) (D : va_G) (h0 sz : Nat) : Met l yX1_init (Cond.code yX1_init cX1_init 1 none :: k_G) ({ frames := 2, cells := 2, slots := 460, locals := 33 }) (va_Pc [.ref h0] (fun U => U.heap.size = sz ∧ va_P D vwCl [(h0, .inr (1, [.null]))] U.heap ∧ va_K D vwCl [] U ∧ va_D (fun _ => True) [(h0, .inr (1, [.null]))])) (va_Qv (fun _ : Nat × Nat × ClassId => True) (fun u t => va_P D vwCl [(h0, .inr (1, [.ref u.1])), (u.1, .inr (0, [.ref u.2.1])), (u.2.1, .inl (u.2.2, 459, .inl k_c0))] t.heap ∧ va_K D vwCl [(u.2.2, .int)] t ∧ va_D (va_A [(h0, .inr (1, [.null]))] sz) [(h0, .inr (1, [.ref u.1])), (u.1, .inr (0, [.ref u.2.1])), (u.2.1, .inl (u.2.2, 459, .inl k_c0))]) (va_A [(h0, .inr (1, [.null]))] sz)) 2 460 (va_A [(h0, .inr (1, [.null]))] sz) := by
  refine Met.ofW (cc := cX1_init) (maxL := 1) (ret := none) (by decide +kernel) rfl ?_
  intro p e s m args below meth c s₁ B hml hv
  obtain ⟨rfl, hsz, hP, hK, hD0⟩ := hv
  have hx := B.exec
  have hb := B.bytes
  have hr := B.returns
  have hts : ∀ w ∈ k_G, w.before _ s = true := fun w hw => atoms_spec (ws := Cond.code yX1_init cX1_init 1 none :: k_G) B.pre w (List.mem_cons_of_mem _ hw)
  have hown : s.vm.findClass RX1 = some m.cls := findClass_of_methodNamed B.named
  have hlocks := B.notSynchronized
  have hin : meth.name = "<init>" := (name_of_methodNamed B.named B.method).1
  subst hsz
  have hD := hD0.self (sz := s.heap.size)
  generalize hAe : va_A [(h0, .inr (1, [.null]))] s.heap.size = A at hD ⊢
  have hA : ∀ q : Nat, s.heap.size ≤ q → A q := fun q h => by rw [← hAe]; exact Or.inr h
  have hS : va_S A s.heap s.heap [] := va_S.rf
  replace hP : va_P D vwCl [(h0, .inr (1, [.null]))] s.heap := hP
  have hl := lv_entry ([.ref h0]) (n := 1) (Nat.le_of_ble_eq_true rfl)
  rw [lg_entry_eq]
  generalize (lg_sl ([.ref h0]) ++ List.replicate (1 - (lg_sl ([.ref h0])).length) Slot.unset).toArray = ls at hl ⊢
  have hl : lv_has ls 1 [(0, .ref h0)] := hl
  refine lv_aload_n hx hb dX1_init_0 rfl (lv_at hl 0 rfl) ?_
  refine W.objInit hx hb hown (hts _ (k_gm 38 (by decide +kernel) (by decide +kernel))) (hts _ (k_gm 31 (by decide +kernel) (by decide +kernel))) (hts _ (k_gm 32 (by decide +kernel) (by decide +kernel))) rfl (by rw [hml]; exact hl.1) rfl dX1_init_1 (Nat.le_of_ble_eq_true rfl) (Nat.le_of_ble_eq_true rfl) ?_
  refine W.eq (g2 := F0 m 4 ls []) rfl ?_
  refine lv_aload_n hx hb dX1_init_4 rfl (lv_at hl 0 rfl) ?_
  refine va_new (ci := 0) (fs := [.null]) (C := RX0) (T := TX0) (N := 1) hx hb hts k_inX0 tyX0 tyX0_ok hown (hts _ (k_gm 39 (by decide +kernel) (by decide +kernel))) (hts _ (k_gm 40 (by decide +kernel) (by decide +kernel))) (hts _ (k_gm 15 (by decide +kernel) (by decide +kernel))) hK hP hD hS hA rfl (by intro j hj; rcases (show j = 0 by omega) with rfl <;> rfl) (Nat.le_of_ble_eq_true rfl) (Nat.le_of_ble_eq_true rfl) dX1_init_5 (fun q5 H hP hD hS => ?_)
  refine W.widen (k := 1) (n := 1) (Nat.le_of_ble_eq_true rfl) (Nat.le_of_ble_eq_true rfl) ?_
  replace hP : va_P D vwCl [(h0, .inr (1, [.null])), (q5, .inr (0, [.null]))] H := hP
  replace hD : va_D A [(h0, .inr (1, [.null])), (q5, .inr (0, [.null]))] := hD
  refine lv_dup hx hb dX1_init_8 rfl ?_
  have hPc := hP.sub (ws' := [(q5, .inr (0, [.null]))]) [1] rfl
  have hDc := hD.sub (ws' := [(q5, .inr (0, [.null]))]) [1] (by decide) rfl
  have hKc := hK.sub (tys' := []) [] rfl
  have hFc := va_free (wc := [(q5, .inr (0, [.null]))]) hD hS hA [1] rfl
  refine va_callv (va_runI (As := []) (rest := [.ref q5, .ref h0]) ⟨hx, hb, hml, hown, hts⟩ (ci_X0 l D q5 H.size) (cwI 0 hts (k_cons (k_gm 43 (by decide +kernel) (by decide +kernel))) rfl rfl rfl (hts _ (k_gm 15 (by decide +kernel) (by decide +kernel))) (hts _ (k_gm 41 (by decide +kernel) (by decide +kernel))) (hts _ (k_gm 42 (by decide +kernel) (by decide +kernel))) rfl (by decide +kernel) ⟨Nat.le_of_ble_eq_true rfl, Nat.le_of_ble_eq_true rfl⟩) ⟨fun a U g mk q => by obtain ⟨q0, q1, qP, qK, qD⟩ := q; exact ⟨q0, q1, qP, va_K.moved (u := U) (U := U.calling g mk a) (Vm.Alike.refl U.vm) qK, qD⟩, fun U hU hW => ⟨rfl, by rw [hU], by rw [hU]; exact hPc, va_K.moved hW.alike hKc, hDc.weaken (fun _ _ _ _ => trivial)⟩⟩ rfl rfl hl.1 rfl (lv_room (Nat.le_of_ble_eq_true rfl)) dX1_init_9 ⟨Nat.le_of_ble_eq_true rfl, Nat.le_of_ble_eq_true rfl⟩) hS (fun q _ h => hFc q h) hFc (fun u t H1 locs ht hvm hw hB hz1 hk1 hS => ?_)
  obtain ⟨q6, cA⟩ := u
  obtain ⟨hP1, hK1, hD1⟩ := hB
  rw [ht] at hP1
  have hK1 := va_K.moved hvm.symm hK1
  obtain ⟨hP, hD⟩ := va_join (wr := [(h0, .inr (1, [.null]))]) (w1 := [(q5, .inr (0, [.ref q6])), (q6, .inl (cA, 459, .inl k_c0))]) hP hD [1] [0] rfl rfl (by decide) (by decide) hk1 hFc hP1 hD1
  have hK := (hK.sub (tys' := []) [] rfl).app hK1
  generalize H1 = H at hP hS ⊢
  refine W.widen (k := 2) (n := 460) (Nat.le_of_ble_eq_true rfl) (Nat.le_of_ble_eq_true rfl) ?_
  replace hP : va_P D vwCl [(h0, .inr (1, [.null])), (q5, .inr (0, [.ref q6])), (q6, .inl (cA, 459, .inl k_c0))] H := hP
  replace hD : va_D A [(h0, .inr (1, [.null])), (q5, .inr (0, [.ref q6])), (q6, .inl (cA, 459, .inl k_c0))] := hD
  replace hK : va_K D vwCl [(cA, .int)] s := hK
  refine va_putF (D := D) (ci := 1) (v := .ref q5) (ty := .object "StripeTrees$State") (C := RX1) (T := TX1) (N := 1) hx hb hts k_inX1 tyX1 tyX1_ok nmX1 hown hK hP hD hS 0 rfl rfl 0 (by decide) (hts _ (k_gm 50 (by decide +kernel) (by decide +kernel))) (fun _ h9 => h9) rfl hin rfl (by decide +kernel) rfl rfl (Nat.le_of_ble_eq_true rfl) dX1_init_12 (fun H locs hP hD hS => ?_)
  replace hP : va_P D vwCl [(h0, .inr (1, [.ref q5])), (q5, .inr (0, [.ref q6])), (q6, .inl (cA, 459, .inl k_c0))] H := hP
  replace hD : va_D A [(h0, .inr (1, [.ref q5])), (q5, .inr (0, [.ref q6])), (q6, .inl (cA, 459, .inl k_c0))] := hD
  exact W.vret hx hb hr (fun t ht hW => ⟨⟨(q5, q6, cA), rfl, trivial, by rw [ht]; exact hP, va_K.moved hW.alike hK, hD⟩, hS.F ht⟩) hS.2.2 dX1_init_15

set_option maxHeartbeats 4000000 in
set_option maxRecDepth 100000 in
theorem ci_X3 (l : Launch) (D : va_G) (h0 sz : Nat) : Met l yX3_init (Cond.code yX3_init cX3_init 1 none :: k_G) ({ frames := 3, cells := 5, slots := 2300, locals := 53 }) (va_Pc [.ref h0] (fun U => U.heap.size = sz ∧ va_P D vwCl [(h0, .inr (3, [.null, .null, .null]))] U.heap ∧ va_K D vwCl [] U ∧ va_D (fun _ => True) [(h0, .inr (3, [.null, .null, .null]))])) (va_Qv (fun _ : Nat × Nat × Nat × ClassId × Nat × Nat × ClassId => True) (fun u t => va_P D vwCl [(h0, .inr (3, [.ref u.1, .ref u.2.1, .ref u.2.2.2.2.1])), (u.1, .inr (1, [.ref u.2.1])), (u.2.1, .inr (0, [.ref u.2.2.1])), (u.2.2.1, .inl (u.2.2.2.1, 459, .inl k_c0)), (u.2.2.2.2.1, .inr (2, [.ref u.2.2.2.2.2.1, .int 0, .int 0])), (u.2.2.2.2.2.1, .inl (u.2.2.2.2.2.2, 1836, .inl (fun _ => 0)))] t.heap ∧ va_K D vwCl [(u.2.2.2.1, .int), (u.2.2.2.2.2.2, .int)] t ∧ va_D (va_A [(h0, .inr (3, [.null, .null, .null]))] sz) [(h0, .inr (3, [.ref u.1, .ref u.2.1, .ref u.2.2.2.2.1])), (u.1, .inr (1, [.ref u.2.1])), (u.2.1, .inr (0, [.ref u.2.2.1])), (u.2.2.1, .inl (u.2.2.2.1, 459, .inl k_c0)), (u.2.2.2.2.1, .inr (2, [.ref u.2.2.2.2.2.1, .int 0, .int 0])), (u.2.2.2.2.2.1, .inl (u.2.2.2.2.2.2, 1836, .inl (fun _ => 0)))]) (va_A [(h0, .inr (3, [.null, .null, .null]))] sz)) 5 2300 (va_A [(h0, .inr (3, [.null, .null, .null]))] sz) := by
  refine Met.ofW (cc := cX3_init) (maxL := 1) (ret := none) (by decide +kernel) rfl ?_
  intro p e s m args below meth c s₁ B hml hv
  obtain ⟨rfl, hsz, hP, hK, hD0⟩ := hv
  have hx := B.exec
  have hb := B.bytes
  have hr := B.returns
  have hts : ∀ w ∈ k_G, w.before _ s = true := fun w hw => atoms_spec (ws := Cond.code yX3_init cX3_init 1 none :: k_G) B.pre w (List.mem_cons_of_mem _ hw)
  have hown : s.vm.findClass RX3 = some m.cls := findClass_of_methodNamed B.named
  have hlocks := B.notSynchronized
  have hin : meth.name = "<init>" := (name_of_methodNamed B.named B.method).1
  subst hsz
  have hD := hD0.self (sz := s.heap.size)
  generalize hAe : va_A [(h0, .inr (3, [.null, .null, .null]))] s.heap.size = A at hD ⊢
  have hA : ∀ q : Nat, s.heap.size ≤ q → A q := fun q h => by rw [← hAe]; exact Or.inr h
  have hS : va_S A s.heap s.heap [] := va_S.rf
  replace hP : va_P D vwCl [(h0, .inr (3, [.null, .null, .null]))] s.heap := hP
  have hl := lv_entry ([.ref h0]) (n := 1) (Nat.le_of_ble_eq_true rfl)
  rw [lg_entry_eq]
  generalize (lg_sl ([.ref h0]) ++ List.replicate (1 - (lg_sl ([.ref h0])).length) Slot.unset).toArray = ls at hl ⊢
  have hl : lv_has ls 1 [(0, .ref h0)] := hl
  refine lv_aload_n hx hb dX3_init_0 rfl (lv_at hl 0 rfl) ?_
  refine W.objInit hx hb hown (hts _ (k_gm 30 (by decide +kernel) (by decide +kernel))) (hts _ (k_gm 31 (by decide +kernel) (by decide +kernel))) (hts _ (k_gm 32 (by decide +kernel) (by decide +kernel))) rfl (by rw [hml]; exact hl.1) rfl dX3_init_1 (Nat.le_of_ble_eq_true rfl) (Nat.le_of_ble_eq_true rfl) ?_
  refine W.eq (g2 := F0 m 4 ls []) rfl ?_
  refine lv_aload_n hx hb dX3_init_4 rfl (lv_at hl 0 rfl) ?_
  refine va_new (ci := 1) (fs := [.null]) (C := RX1) (T := TX1) (N := 1) hx hb hts k_inX1 tyX1 tyX1_ok hown (hts _ (k_gm 33 (by decide +kernel) (by decide +kernel))) (hts _ (k_gm 34 (by decide +kernel) (by decide +kernel))) (hts _ (k_gm 14 (by decide +kernel) (by decide +kernel))) hK hP hD hS hA rfl (by intro j hj; rcases (show j = 0 by omega) with rfl <;> rfl) (Nat.le_of_ble_eq_true rfl) (Nat.le_of_ble_eq_true rfl) dX3_init_5 (fun qT H hP hD hS => ?_)
  refine W.widen (k := 1) (n := 1) (Nat.le_of_ble_eq_true rfl) (Nat.le_of_ble_eq_true rfl) ?_
  replace hP : va_P D vwCl [(h0, .inr (3, [.null, .null, .null])), (qT, .inr (1, [.null]))] H := hP
  replace hD : va_D A [(h0, .inr (3, [.null, .null, .null])), (qT, .inr (1, [.null]))] := hD
  refine lv_dup hx hb dX3_init_8 rfl ?_
  have hPc := hP.sub (ws' := [(qT, .inr (1, [.null]))]) [1] rfl
  have hDc := hD.sub (ws' := [(qT, .inr (1, [.null]))]) [1] (by decide) rfl
  have hKc := hK.sub (tys' := []) [] rfl
  have hFc := va_free (wc := [(qT, .inr (1, [.null]))]) hD hS hA [1] rfl
  refine va_callv (va_runI (As := []) (rest := [.ref qT, .ref h0]) ⟨hx, hb, hml, hown, hts⟩ (ci_X1 l D qT H.size) (cwI 0 hts (k_cons (k_gm 37 (by decide +kernel) (by decide +kernel))) rfl rfl rfl (hts _ (k_gm 14 (by decide +kernel) (by decide +kernel))) (hts _ (k_gm 35 (by decide +kernel) (by decide +kernel))) (hts _ (k_gm 36 (by decide +kernel) (by decide +kernel))) rfl (by decide +kernel) ⟨Nat.le_of_ble_eq_true rfl, Nat.le_of_ble_eq_true rfl⟩) ⟨fun a U g mk q => by obtain ⟨q0, q1, qP, qK, qD⟩ := q; exact ⟨q0, q1, qP, va_K.moved (u := U) (U := U.calling g mk a) (Vm.Alike.refl U.vm) qK, qD⟩, fun U hU hW => ⟨rfl, by rw [hU], by rw [hU]; exact hPc, va_K.moved hW.alike hKc, hDc.weaken (fun _ _ _ _ => trivial)⟩⟩ rfl rfl hl.1 rfl (lv_room (Nat.le_of_ble_eq_true rfl)) dX3_init_9 ⟨Nat.le_of_ble_eq_true rfl, Nat.le_of_ble_eq_true rfl⟩) hS (fun q _ h => hFc q h) hFc (fun u t H1 locs ht hvm hw hB hz1 hk1 hS => ?_)
  obtain ⟨qS, qC, cA⟩ := u
  obtain ⟨hP1, hK1, hD1⟩ := hB
  rw [ht] at hP1
  have hK1 := va_K.moved hvm.symm hK1
  obtain ⟨hP, hD⟩ := va_join (wr := [(h0, .inr (3, [.null, .null, .null]))]) (w1 := [(qT, .inr (1, [.ref qS])), (qS, .inr (0, [.ref qC])), (qC, .inl (cA, 459, .inl k_c0))]) hP hD [1] [0] rfl rfl (by decide) (by decide) hk1 hFc hP1 hD1
  have hK := (hK.sub (tys' := []) [] rfl).app hK1
  generalize H1 = H at hP hS ⊢
  refine W.widen (k := 3) (n := 461) (Nat.le_of_ble_eq_true rfl) (Nat.le_of_ble_eq_true rfl) ?_
  replace hP : va_P D vwCl [(h0, .inr (3, [.null, .null, .null])), (qT, .inr (1, [.ref qS])), (qS, .inr (0, [.ref qC])), (qC, .inl (cA, 459, .inl k_c0))] H := hP
  replace hD : va_D A [(h0, .inr (3, [.null, .null, .null])), (qT, .inr (1, [.ref qS])), (qS, .inr (0, [.ref qC])), (qC, .inl (cA, 459, .inl k_c0))] := hD
  replace hK : va_K D vwCl [(cA, .int)] s := hK
  refine va_putF (D := D) (ci := 3) (v := .ref qT) (ty := .object "StripeTrees$Trees") (C := RX3) (T := TX3) (N := 3) hx hb hts k_inX3 tyX3 tyX3_ok nmX3 hown hK hP hD hS 0 rfl rfl 0 (by decide) (hts _ (k_gm 71 (by decide +kernel) (by decide +kernel))) (fun _ h9 => h9) rfl hin rfl (by decide +kernel) rfl rfl (Nat.le_of_ble_eq_true rfl) dX3_init_12 (fun H locs hP hD hS => ?_)
  replace hP : va_P D vwCl [(h0, .inr (3, [.ref qT, .null, .null])), (qT, .inr (1, [.ref qS])), (qS, .inr (0, [.ref qC])), (qC, .inl (cA, 459, .inl k_c0))] H := hP
  replace hD : va_D A [(h0, .inr (3, [.ref qT, .null, .null])), (qT, .inr (1, [.ref qS])), (qS, .inr (0, [.ref qC])), (qC, .inl (cA, 459, .inl k_c0))] := hD
  refine lv_aload_n hx hb dX3_init_15 rfl (lv_at hl 0 rfl) ?_
  refine lv_aload_n hx hb dX3_init_16 rfl (lv_at hl 0 rfl) ?_
  refine va_get (D := D) (ci := 3) (v := .ref qT) (C := RX3) (T := TX3) (N := 3) hx hb hts k_inX3 hown hK hP 0 rfl rfl 0 (by decide) (hts _ (k_gm 71 (by decide +kernel) (by decide +kernel))) (fun _ h9 => h9) rfl dX3_init_17 ?_
  refine va_get (D := D) (ci := 1) (v := .ref qS) (C := RX1) (T := TX1) (N := 1) hx hb hts k_inX1 hown hK hP 1 rfl rfl 0 (by decide) (hts _ (k_gm 51 (by decide +kernel) (by decide +kernel))) (fun _ h9 => h9) rfl dX3_init_20 ?_
  refine va_putF (D := D) (ci := 3) (v := .ref qS) (ty := .object "StripeTrees$State") (C := RX3) (T := TX3) (N := 3) hx hb hts k_inX3 tyX3 tyX3_ok nmX3 hown hK hP hD hS 0 rfl rfl 1 (by decide) (hts _ (k_gm 72 (by decide +kernel) (by decide +kernel))) (fun _ h9 => h9) rfl hin rfl (by decide +kernel) rfl rfl (Nat.le_of_ble_eq_true rfl) dX3_init_23 (fun H locs hP hD hS => ?_)
  replace hP : va_P D vwCl [(h0, .inr (3, [.ref qT, .ref qS, .null])), (qT, .inr (1, [.ref qS])), (qS, .inr (0, [.ref qC])), (qC, .inl (cA, 459, .inl k_c0))] H := hP
  replace hD : va_D A [(h0, .inr (3, [.ref qT, .ref qS, .null])), (qT, .inr (1, [.ref qS])), (qS, .inr (0, [.ref qC])), (qC, .inl (cA, 459, .inl k_c0))] := hD
  refine lv_aload_n hx hb dX3_init_26 rfl (lv_at hl 0 rfl) ?_
  refine va_new (ci := 2) (fs := [.null, .int 0, .int 0]) (C := RX2) (T := TX2) (N := 3) hx hb hts k_inX2 tyX2 tyX2_ok hown (hts _ (k_gm 55 (by decide +kernel) (by decide +kernel))) (hts _ (k_gm 56 (by decide +kernel) (by decide +kernel))) (hts _ (k_gm 16 (by decide +kernel) (by decide +kernel))) hK hP hD hS hA rfl (by intro j hj; rcases (show j = 0 ∨ j = 1 ∨ j = 2 by omega) with rfl | rfl | rfl <;> rfl) (Nat.le_of_ble_eq_true rfl) (Nat.le_of_ble_eq_true rfl) dX3_init_27 (fun qU H hP hD hS => ?_)
  refine W.widen (k := 4) (n := 464) (Nat.le_of_ble_eq_true rfl) (Nat.le_of_ble_eq_true rfl) ?_
  replace hP : va_P D vwCl [(h0, .inr (3, [.ref qT, .ref qS, .null])), (qT, .inr (1, [.ref qS])), (qS, .inr (0, [.ref qC])), (qC, .inl (cA, 459, .inl k_c0)), (qU, .inr (2, [.null, .int 0, .int 0]))] H := hP
  replace hD : va_D A [(h0, .inr (3, [.ref qT, .ref qS, .null])), (qT, .inr (1, [.ref qS])), (qS, .inr (0, [.ref qC])), (qC, .inl (cA, 459, .inl k_c0)), (qU, .inr (2, [.null, .int 0, .int 0]))] := hD
  refine lv_dup hx hb dX3_init_30 rfl ?_
  have hPc := hP.sub (ws' := [(qU, .inr (2, [.null, .int 0, .int 0]))]) [4] rfl
  have hDc := hD.sub (ws' := [(qU, .inr (2, [.null, .int 0, .int 0]))]) [4] (by decide) rfl
  have hKc := hK.sub (tys' := []) [] rfl
  have hFc := va_free (wc := [(qU, .inr (2, [.null, .int 0, .int 0]))]) hD hS hA [4] rfl
  refine va_callv (va_runI (As := []) (rest := [.ref qU, .ref h0]) ⟨hx, hb, hml, hown, hts⟩ (ci_X2 l D qU H.size) (cwI 0 hts (k_cons (k_gm 59 (by decide +kernel) (by decide +kernel))) rfl rfl rfl (hts _ (k_gm 16 (by decide +kernel) (by decide +kernel))) (hts _ (k_gm 57 (by decide +kernel) (by decide +kernel))) (hts _ (k_gm 58 (by decide +kernel) (by decide +kernel))) rfl (by decide +kernel) ⟨Nat.le_of_ble_eq_true rfl, Nat.le_of_ble_eq_true rfl⟩) ⟨fun a U g mk q => by obtain ⟨q0, q1, qP, qK, qD⟩ := q; exact ⟨q0, q1, qP, va_K.moved (u := U) (U := U.calling g mk a) (Vm.Alike.refl U.vm) qK, qD⟩, fun U hU hW => ⟨rfl, by rw [hU], by rw [hU]; exact hPc, va_K.moved hW.alike hKc, hDc.weaken (fun _ _ _ _ => trivial)⟩⟩ rfl rfl hl.1 rfl (lv_room (Nat.le_of_ble_eq_true rfl)) dX3_init_31 ⟨Nat.le_of_ble_eq_true rfl, Nat.le_of_ble_eq_true rfl⟩) hS (fun q _ h => hFc q h) hFc (fun u t H1 locs ht hvm hw hB hz1 hk1 hS => ?_)
  obtain ⟨qR, cB⟩ := u
  obtain ⟨hP1, hK1, hD1⟩ := hB
  rw [ht] at hP1
  have hK1 := va_K.moved hvm.symm hK1
  obtain ⟨hP, hD⟩ := va_join (wr := [(h0, .inr (3, [.ref qT, .ref qS, .null])), (qT, .inr (1, [.ref qS])), (qS, .inr (0, [.ref qC])), (qC, .inl (cA, 459, .inl k_c0))]) (w1 := [(qU, .inr (2, [.ref qR, .int 0, .int 0])), (qR, .inl (cB, 1836, .inl (fun _ => 0)))]) hP hD [4] [0, 1, 2, 3] rfl rfl (by decide) (by decide) hk1 hFc hP1 hD1
  have hK := (hK.sub (tys' := [(cA, .int)]) [0] rfl).app hK1
  generalize H1 = H at hP hS ⊢
  refine W.widen (k := 5) (n := 2300) (Nat.le_of_ble_eq_true rfl) (Nat.le_of_ble_eq_true rfl) ?_
  replace hP : va_P D vwCl [(h0, .inr (3, [.ref qT, .ref qS, .null])), (qT, .inr (1, [.ref qS])), (qS, .inr (0, [.ref qC])), (qC, .inl (cA, 459, .inl k_c0)), (qU, .inr (2, [.ref qR, .int 0, .int 0])), (qR, .inl (cB, 1836, .inl (fun _ => 0)))] H := hP
  replace hD : va_D A [(h0, .inr (3, [.ref qT, .ref qS, .null])), (qT, .inr (1, [.ref qS])), (qS, .inr (0, [.ref qC])), (qC, .inl (cA, 459, .inl k_c0)), (qU, .inr (2, [.ref qR, .int 0, .int 0])), (qR, .inl (cB, 1836, .inl (fun _ => 0)))] := hD
  replace hK : va_K D vwCl [(cA, .int), (cB, .int)] s := hK
  refine va_putF (D := D) (ci := 3) (v := .ref qU) (ty := .object "StripeTrees$UndoStack") (C := RX3) (T := TX3) (N := 3) hx hb hts k_inX3 tyX3 tyX3_ok nmX3 hown hK hP hD hS 0 rfl rfl 2 (by decide) (hts _ (k_gm 73 (by decide +kernel) (by decide +kernel))) (fun _ h9 => h9) rfl hin rfl (by decide +kernel) rfl rfl (Nat.le_of_ble_eq_true rfl) dX3_init_34 (fun H locs hP hD hS => ?_)
  replace hP : va_P D vwCl [(h0, .inr (3, [.ref qT, .ref qS, .ref qU])), (qT, .inr (1, [.ref qS])), (qS, .inr (0, [.ref qC])), (qC, .inl (cA, 459, .inl k_c0)), (qU, .inr (2, [.ref qR, .int 0, .int 0])), (qR, .inl (cB, 1836, .inl (fun _ => 0)))] H := hP
  replace hD : va_D A [(h0, .inr (3, [.ref qT, .ref qS, .ref qU])), (qT, .inr (1, [.ref qS])), (qS, .inr (0, [.ref qC])), (qC, .inl (cA, 459, .inl k_c0)), (qU, .inr (2, [.ref qR, .int 0, .int 0])), (qR, .inl (cB, 1836, .inl (fun _ => 0)))] := hD
  exact W.vret hx hb hr (fun t ht hW => ⟨⟨(qT, qS, qC, cA, qU, qR, cB), rfl, trivial, by rw [ht]; exact hP, va_K.moved hW.alike hK, hD⟩, hS.F ht⟩) hS.2.2 dX3_init_37


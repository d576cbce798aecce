/-! printed by wip/whole/geninit.py: the constructors -/
def k_cj (j : Nat) : Nat → Int32 := fun t => if 320 ≤ t ∧ t < j then -1 else 0
theorem k_cj_0 : k_cj 320 = fun _ => 0 := by
  funext t
  unfold k_cj
  rw [if_neg (by omega)]
theorem k_cj_s {j : Nat} (h : 320 ≤ j) : upd (k_cj j) j (-1) = k_cj (j + 1) := by
  funext t
  simp only [upd, k_cj]
  by_cases h1 : t = j
  · subst h1
    rw [if_pos rfl, if_pos ⟨h, by omega⟩]
  · rw [if_neg h1]
    by_cases h2 : 320 ≤ t ∧ t < j
    · rw [if_pos h2, if_pos ⟨h2.1, by omega⟩]
    · rw [if_neg h2, if_neg (fun q => h2 ⟨q.1, by omega⟩)]
def k_c0 : Nat → Int32 := upd (upd (k_cj 448) 457 2) 458 3
set_option maxHeartbeats 4000000 in
set_option maxRecDepth 100000 in
theorem ci_X0 (l : Launch) (D : va_G) (h0 sz : Nat) : Met l yX0_init (Cond.code yX0_init cX0_init 2 none :: k_G) ({ frames := 1, cells := 1, slots := 459, locals := 12 }) (va_Pc [.ref h0] (fun U => U.heap.size = sz ∧ va_P D vwCl [(h0, .inr (0, [.null]))] U.heap ∧ va_K D vwCl [] U ∧ va_D (fun _ => True) [(h0, .inr (0, [.null]))])) (va_Qv (fun _ : Nat × ClassId => True) (fun u t => va_P D vwCl [(h0, .inr (0, [.ref u.1])), (u.1, .inl (u.2, 459, .inl k_c0))] t.heap ∧ va_K D vwCl [(u.2, .int)] t ∧ va_D (va_A [(h0, .inr (0, [.null]))] sz) [(h0, .inr (0, [.ref u.1])), (u.1, .inl (u.2, 459, .inl k_c0))]) (va_A [(h0, .inr (0, [.null]))] sz)) 1 459 (va_A [(h0, .inr (0, [.null]))] sz) := by
  refine Met.ofW (cc := cX0_init) (maxL := 2) (ret := none) (by decide +kernel) rfl ?_
  intro p e s m args below meth c s₁ B hml hv
  obtain ⟨rfl, hsz, hP, hK, hD0⟩ := hv
  have hx := B.exec
  have hb := B.bytes
  have hr := B.returns
  have hts : ∀ w ∈ k_G, w.before _ s = true := fun w hw => atoms_spec (ws := Cond.code yX0_init cX0_init 2 none :: k_G) B.pre w (List.mem_cons_of_mem _ hw)
  have hown : s.vm.findClass RX0 = some m.cls := findClass_of_methodNamed B.named
  have hlocks := B.notSynchronized
  have hin : meth.name = "<init>" := (name_of_methodNamed B.named B.method).1
  subst hsz
  have hD := hD0.self (sz := s.heap.size)
  generalize hAe : va_A [(h0, .inr (0, [.null]))] s.heap.size = A at hD ⊢
  have hA : ∀ q : Nat, s.heap.size ≤ q → A q := fun q h => by rw [← hAe]; exact Or.inr h
  have hS : va_S A s.heap s.heap [] := va_S.rf
  replace hP : va_P D vwCl [(h0, .inr (0, [.null]))] s.heap := hP
  have hl := lv_entry ([.ref h0]) (n := 2) (Nat.le_of_ble_eq_true rfl)
  rw [lg_entry_eq]
  generalize (lg_sl ([.ref h0]) ++ List.replicate (2 - (lg_sl ([.ref h0])).length) Slot.unset).toArray = ls at hl ⊢
  have hl : lv_has ls 2 [(0, .ref h0)] := hl
  refine lv_aload_n hx hb dX0_init_0 rfl (lv_at hl 0 rfl) ?_
  refine W.objInit hx hb hown (hts _ (k_gm 78 (by decide +kernel) (by decide +kernel))) (hts _ (k_gm 65 (by decide +kernel) (by decide +kernel))) (hts _ (k_gm 66 (by decide +kernel) (by decide +kernel))) rfl (by rw [hml]; exact hl.1) rfl dX0_init_1 (Nat.le_of_ble_eq_true rfl) (Nat.le_of_ble_eq_true rfl) ?_
  refine W.eq (g2 := F0 m 4 ls []) rfl ?_
  refine lv_aload_n hx hb dX0_init_4 rfl (lv_at hl 0 rfl) ?_
  refine lv_sipush (v := 459) hx hb dX0_init_5 (by decide) ?_
  refine va_newa (atype := .int) (ty := .int) (a0 := (459, .inl (fun _ => 0))) (N' := 459) hx hb (hts _ (k_gm 83 (by decide +kernel) (by decide +kernel))) rfl hK hP hD hS hA (fun _ => rfl) (by decide) (by decide) (Nat.le_of_ble_eq_true rfl) (Nat.le_of_ble_eq_true rfl) (Nat.le_of_ble_eq_true rfl) dX0_init_8 (fun q cA H hK hP hD hS => ?_)
  refine W.widen (k := 1) (n := 459) (Nat.le_of_ble_eq_true rfl) (Nat.le_of_ble_eq_true rfl) ?_
  replace hP : va_P D vwCl [(h0, .inr (0, [.null])), (q, .inl (cA, 459, .inl (fun _ => 0)))] H := hP
  replace hD : va_D A [(h0, .inr (0, [.null])), (q, .inl (cA, 459, .inl (fun _ => 0)))] := hD
  replace hK : va_K D vwCl [(cA, .int)] s := hK
  refine va_putF (D := D) (ci := 0) (v := .ref q) (ty := .array .int) (C := RX0) (T := TX0) (N := 1) hx hb hts k_inX0 tyX0 tyX0_ok nmX0 hown hK hP hD hS 0 rfl rfl 0 (by decide) (hts _ (k_gm 79 (by decide +kernel) (by decide +kernel))) (fun _ h9 => h9) rfl hin rfl (by decide +kernel) rfl rfl (Nat.le_of_ble_eq_true rfl) dX0_init_10 (fun H locs hP hD hS => ?_)
  replace hP : va_P D vwCl [(h0, .inr (0, [.ref q])), (q, .inl (cA, 459, .inl (fun _ => 0)))] H := hP
  replace hD : va_D A [(h0, .inr (0, [.ref q])), (q, .inl (cA, 459, .inl (fun _ => 0)))] := hD
  rw [← k_cj_0] at hP hD
  refine lv_sipush (v := 320) hx hb dX0_init_13 (by decide) ?_
  refine lv_istore_n (lv' := [(1, .int (nI 320)), (0, .ref h0)]) hx hb dX0_init_16 rfl hl (by decide) rfl (fun ls hl => ?_)
  replace hl : lv_has ls 2 [(1, .int (nI 320)), (0, .ref h0)] := hl
  obtain ⟨n, hj⟩ : ∃ n, 320 + n = 448 := ⟨128, rfl⟩
  have hj2 : 320 ≤ 320 := Nat.le_refl _
  generalize hj0 : (320 : Nat) = j at hj hP hD hl
  rw [show (320 ≤ 320) = (320 ≤ j) by rw [← hj0]] at hj2
  clear hj0
  induction n generalizing j H locs ls with
    | zero =>
      have hj4 : j = 448 := by omega
      subst hj4
      refine lv_iload_n hx hb dX0_init_17 rfl (lv_at hl 0 rfl) ?_
      refine lv_sipush (v := 448) hx hb dX0_init_18 (by decide) ?_
      refine lv_icmp_ge (tgt := 37) hx hb dX0_init_21 (by decide) (fun c1 => ?_) (fun c1 => absurd (by decide) c1)
      refine lv_aload_n hx hb dX0_init_37 rfl (lv_at hl 1 rfl) ?_
      refine va_get (D := D) (ci := 0) (v := .ref q) (C := RX0) (T := TX0) (N := 1) hx hb hts k_inX0 hown hK hP 0 rfl rfl 0 (by decide) (hts _ (k_gm 79 (by decide +kernel) (by decide +kernel))) (fun _ h9 => h9) rfl dX0_init_38 ?_
      refine lv_sipush (v := 457) hx hb dX0_init_41 (by decide) ?_
      refine lv_iconst (v := 2) hx hb dX0_init_44 (by decide) ?_
      refine va_iast hx hb hK hP hD hS 1 0 rfl rfl (show vp_in 457 459 from vp_in_nI (n := 457) (by omega) (by omega)) dX0_init_45 (fun H locs hP hD hS => ?_)
      replace hP : va_P D vwCl [(h0, .inr (0, [.ref q])), (q, .inl (cA, 459, .inl (upd (k_cj 448) 457 2)))] H := hP
      replace hD : va_D A [(h0, .inr (0, [.ref q])), (q, .inl (cA, 459, .inl (upd (k_cj 448) 457 2)))] := hD
      refine lv_aload_n hx hb dX0_init_46 rfl (lv_at hl 1 rfl) ?_
      refine va_get (D := D) (ci := 0) (v := .ref q) (C := RX0) (T := TX0) (N := 1) hx hb hts k_inX0 hown hK hP 0 rfl rfl 0 (by decide) (hts _ (k_gm 79 (by decide +kernel) (by decide +kernel))) (fun _ h9 => h9) rfl dX0_init_47 ?_
      refine lv_sipush (v := 458) hx hb dX0_init_50 (by decide) ?_
      refine lv_iconst (v := 3) hx hb dX0_init_53 (by decide) ?_
      refine va_iast hx hb hK hP hD hS 1 0 rfl rfl (show vp_in 458 459 from vp_in_nI (n := 458) (by omega) (by omega)) dX0_init_54 (fun H locs hP hD hS => ?_)
      replace hP : va_P D vwCl [(h0, .inr (0, [.ref q])), (q, .inl (cA, 459, .inl k_c0))] H := hP
      replace hD : va_D A [(h0, .inr (0, [.ref q])), (q, .inl (cA, 459, .inl k_c0))] := hD
      exact W.vret hx hb hr (fun t ht hW => ⟨⟨(q, cA), rfl, trivial, by rw [ht]; exact hP, va_K.moved hW.alike hK, hD⟩, hS.F ht⟩) hS.2.2 dX0_init_55
    | succ n ih =>
      refine lv_iload_n hx hb dX0_init_17 rfl (lv_at hl 0 rfl) ?_
      refine lv_sipush (v := 448) hx hb dX0_init_18 (by decide) ?_
      refine lv_icmp_ge (tgt := 37) hx hb dX0_init_21 (by decide) (fun c1 => ?_) (fun c1 => ?_)
      · exfalso
        have c2 : nI 448 ≤ nI j := c1
        rw [nI_leI (by omega) (by omega)] at c2
        omega
      · refine lv_aload_n hx hb dX0_init_24 rfl (lv_at hl 1 rfl) ?_
        refine va_get (D := D) (ci := 0) (v := .ref q) (C := RX0) (T := TX0) (N := 1) hx hb hts k_inX0 hown hK hP 0 rfl rfl 0 (by decide) (hts _ (k_gm 79 (by decide +kernel) (by decide +kernel))) (fun _ h9 => h9) rfl dX0_init_25 ?_
        refine lv_iload_n hx hb dX0_init_28 rfl (lv_at hl 0 rfl) ?_
        refine lv_iconst (v := -1) hx hb dX0_init_29 (by decide) ?_
        refine va_iast hx hb hK hP hD hS 1 0 rfl rfl (vp_in_nI (by omega) (by omega)) dX0_init_30 (fun H locs hP hD hS => ?_)
        replace hP : va_P D vwCl [(h0, .inr (0, [.ref q])), (q, .inl (cA, 459, .inl (upd (k_cj j) (nI j).toNatClampNeg (-1))))] H := hP
        replace hD : va_D A [(h0, .inr (0, [.ref q])), (q, .inl (cA, 459, .inl (upd (k_cj j) (nI j).toNatClampNeg (-1))))] := hD
        rw [nI_clamp (by omega), k_cj_s hj2] at hP hD
        refine lv_iinc (v := nI (j + 1)) (lv' := [(1, .int (nI (j + 1))), (0, .ref h0)]) hx hb dX0_init_31 hl (k := 0) rfl (by rw [nI_succ]; rfl) (by decide) rfl (fun ls hl => ?_)
        refine lv_goto (tgt := 17) hx hb dX0_init_34 (by decide) ?_
        apply ih (j := j + 1) <;> first | assumption | omega


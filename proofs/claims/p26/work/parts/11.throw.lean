/-! throws: the contract of a method that throws, its call, the throw itself -/
def k_strs : List (Nat × String) := [(216, "there is no such member"), (223, "the member has not joined"), (219, "there is no such stripe"), (221, "a value is out of range"), (42, "the member has joined already"), (76, "the member has failed already"), (135, "the index is negative"), (152, "a member does not rank before itself"), (185, "the undo stack is empty")]
abbrev k_ISE : String := "java/lang/IllegalStateException"
abbrev k_IAE : String := "java/lang/IllegalArgumentException"
abbrev k_IOE : String := "java/lang/IndexOutOfBoundsException"
def k_decl : List MethodName := [⟨"java/lang/RuntimeException", "<init>", "()V"⟩, ⟨"java/lang/RuntimeException", "<init>", "(Ljava/lang/String;)V"⟩, ⟨"java/lang/Exception", "<init>", "()V"⟩, ⟨"java/lang/Exception", "<init>", "(Ljava/lang/String;)V"⟩, ⟨"java/lang/Throwable", "<init>", "()V"⟩, ⟨"java/lang/Throwable", "<init>", "(Ljava/lang/String;)V"⟩]
abbrev k_bad (E : String) : List Cond := Cond.castable E E :: k_decl.map Cond.declares
/-- what a throw needs of the start, beside the words -/
def k_Z (A : Nat → Prop) (U : State) (H : Heap) : Prop := vx_Zq Bundle.tN "UNASSIGNED_STACK" Bundle.steD A U H ∧ vx_Zq Bundle.tN "SUPPRESSED_SENTINEL" Bundle.listD A U H ∧ (∀ q ∈ k_strs, ∃ sa, vk_R RX3 q.1 q.2 sa U) ∧ (∀ E ∈ [k_ISE, k_IAE, k_IOE], va_Nw (.castable E E) U) ∧ (∀ x ∈ k_decl, va_Nw (.declares x) U)
theorem k_Z.next {A0 B : Nat → Prop} {s U : State} {H0 H : Heap} {locs : List Loc} (h : k_Z A0 s H0) (hS : va_S A0 H0 H locs) (hB : ∀ q, B q → A0 q) (hW : s.WarmedH U.vm) : k_Z B U H := by
  obtain ⟨h1, h2, h3, h4, h5⟩ := h
  exact ⟨((h1.kept (fun a q1 q2 => hS.2.1 a q1 q2)).narrow hB).moved hW.alike, ((h2.kept (fun a q1 q2 => hS.2.1 a q1 q2)).narrow hB).moved hW.alike, fun q hq => (h3 q hq).imp fun sa z => vk_R.warm hW z, fun E hE => va_Nw.warmC hW (h4 E hE), fun x hx => va_Nw.warmD hW (h5 x hx)⟩
theorem k_Z.same {A : Nat → Prop} {u U : State} {H : Heap} (hv : U.vm = u.vm) (h : k_Z A u H) : k_Z A U H := by
  obtain ⟨h1, h2, h3, h4, h5⟩ := h
  have ha : u.vm.Alike U.vm := by rw [hv]; exact Vm.Alike.refl _
  exact ⟨h1.moved ha, h2.moved ha, fun q hq => (h3 q hq).imp fun sa z => vk_R.same hv z, fun E hE => va_Nw.same rfl hv.symm (h4 E hE), fun x hx => va_Nw.same rfl hv.symm (h5 x hx)⟩
def k_Thr (l : Launch) (ad : Nat → Nat) (D : va_G) (cI cL : ClassId) (y : MethodName) (cc : ByteArray) (nL : Nat) (ret : Option FieldType) (fr lo : Nat) (av : List Value → List Value) (F : Sp) : Prop :=
  ∀ (As : List Value) (M : Mm) (e : String × Mm), F As M = some (.inr e) → ∀ sz : Nat, vx_Met l y (Cond.code y cc nL ret :: k_G) ({ frames := fr, cells := 1, slots := 6, locals := lo }) (va_Pc (av As) (fun U => U.heap.size = sz ∧ k_B ad D cI cL M U ∧ k_Z (k_A ad sz) U U.heap)) (fun _ _ _ _ => False) (fun E st t => E = e.1 ∧ k_B ad D cI cL e.2 t ∧ va_F (k_A ad sz) st t) 1 6 (k_A ad sz)
def k_ct (ad : Nat → Nat) (X : Cx) (y : MethodName) (cc : ByteArray) (nL : Nat) (ret : Option FieldType) (fr lo : Nat) (av : List Value → List Value) (F : Sp) : Prop := match X with
  | (_, l, _, _, _, _, _, _, _, _, _, D, cI, cL, _, _, _, _) => k_Thr l ad D cI cL y cc nL ret fr lo av F
/-- what a method owes where it throws -/
def k_T (ad : Nat → Nat) (X : Cx) (res : Rs) : Prop := match X with
  | (p, l, e, R, s, m, args, below, meth, c, Q, D, cI, cL, A0, H0, ck, cn) => ∀ (E : String) (M : Mm), res = .inr (E, M) → l.stackTraces = false ∧ k_Z A0 s s.heap ∧ H0 = s.heap ∧ (∀ x ∈ c.exceptionTable.toList, False) ∧ meth.locks = false ∧ ck + 1 ≤ R.cells ∧ cn + 6 ≤ R.slots ∧ (∀ (H : Heap) (locs : List Loc), va_P D vwCl (k_W ad cI cL M) H → va_S A0 H0 H locs → ∀ t, vx_MQ below (fun _ _ _ _ => False) (fun E' _ t => E' = E ∧ H.size ≤ t.heap.size ∧ (∀ q : Nat, q < H.size → t.heap[q]? = H[q]?) ∧ s.vm.Alike t.vm) args s (ck + 1) (cn + 6) A0 t → Q t)
def tt_thr (E : String) (res : Rs) : Tr := fun _ st M => st.length ≤ 4 ∧ res = .inr (E, M)
def tt_xv (ad : Nat → Nat) (o n : Nat) (F : Sp) (res : Rs) (t : Tr) : Tr := fun L st M => match st.drop n with
  | .ref a :: rest => a = ad o ∧ rest.length ≤ 4 ∧ (match F (st.take n).reverse M with
    | some (.inl r) => t L (r.1.toList ++ rest) r.2
    | some (.inr e) => res = .inr e
    | none => False)
  | _ => False
def tt_xs (n : Nat) (F : Sp) (res : Rs) (t : Tr) : Tr := fun L st M => n ≤ st.length ∧ (st.drop n).length ≤ 4 ∧ (match F (st.take n).reverse M with
    | some (.inl r) => t L (r.1.toList ++ st.drop n) r.2
    | some (.inr e) => res = .inr e
    | none => False)
theorem k_atI : (∀ w ∈ (vx_atS RX3 218 k_IOE ["java/lang/RuntimeException", "java/lang/Exception"]).filter goodWord, w ∈ k_G) ∧ (∀ w ∈ (vx_atS RX3 218 k_IOE ["java/lang/RuntimeException", "java/lang/Exception"]).filter (fun w => !goodWord w), w ∈ k_bad k_IOE) ∧ (∀ w ∈ Cond.classLink RX3 214 k_IOE :: Cond.initialized k_IOE :: vx_atS RX3 218 k_IOE ["java/lang/RuntimeException", "java/lang/Exception"], vx_ot w = true) ∧ Cond.classLink RX3 214 k_IOE ∈ k_G ∧ Cond.initialized k_IOE ∈ k_G := ⟨by decide +kernel, by decide +kernel, by decide +kernel, by decide +kernel, by decide +kernel⟩
theorem k_atA : (∀ w ∈ (vx_atS RX3 137 k_IAE ["java/lang/RuntimeException", "java/lang/Exception"]).filter goodWord, w ∈ k_G) ∧ (∀ w ∈ (vx_atS RX3 137 k_IAE ["java/lang/RuntimeException", "java/lang/Exception"]).filter (fun w => !goodWord w), w ∈ k_bad k_IAE) ∧ (∀ w ∈ Cond.classLink RX3 133 k_IAE :: Cond.initialized k_IAE :: vx_atS RX3 137 k_IAE ["java/lang/RuntimeException", "java/lang/Exception"], vx_ot w = true) ∧ Cond.classLink RX3 133 k_IAE ∈ k_G ∧ Cond.initialized k_IAE ∈ k_G := ⟨by decide +kernel, by decide +kernel, by decide +kernel, by decide +kernel, by decide +kernel⟩
theorem k_atS : (∀ w ∈ (vx_atS RX3 44 k_ISE ["java/lang/RuntimeException", "java/lang/Exception"]).filter goodWord, w ∈ k_G) ∧ (∀ w ∈ (vx_atS RX3 44 k_ISE ["java/lang/RuntimeException", "java/lang/Exception"]).filter (fun w => !goodWord w), w ∈ k_bad k_ISE) ∧ (∀ w ∈ Cond.classLink RX3 40 k_ISE :: Cond.initialized k_ISE :: vx_atS RX3 44 k_ISE ["java/lang/RuntimeException", "java/lang/Exception"], vx_ot w = true) ∧ Cond.classLink RX3 40 k_ISE ∈ k_G ∧ Cond.initialized k_ISE ∈ k_G := ⟨by decide +kernel, by decide +kernel, by decide +kernel, by decide +kernel, by decide +kernel⟩
section KT
variable {ad : Nat → Nat} {X : Cx} {cc : ByteArray} {own : String} {nL fr lo pc : Nat} {t t1 t2 : Tr} {res : Rs}
theorem ss_thr {ik is ic : Nat} {cls text : String} (hfit : Bundle.fit cls = true) (hE : cls ∈ [k_ISE, k_IAE, k_IOE]) (hat : (∀ w ∈ (vx_atS RX3 ic cls ["java/lang/RuntimeException", "java/lang/Exception"]).filter goodWord, w ∈ k_G) ∧ (∀ w ∈ (vx_atS RX3 ic cls ["java/lang/RuntimeException", "java/lang/Exception"]).filter (fun w => !goodWord w), w ∈ k_bad cls) ∧ (∀ w ∈ Cond.classLink RX3 ik cls :: Cond.initialized cls :: vx_atS RX3 ic cls ["java/lang/RuntimeException", "java/lang/Exception"], vx_ot w = true) ∧ Cond.classLink RX3 ik cls ∈ k_G ∧ Cond.initialized cls ∈ k_G)
    (C0 : k_C ad X cc RX3 nL fr lo) (T0 : k_T ad X res) (d0 : decode cc pc = .ok (.new ik, 3)) (d3 : decode cc (pc + 3) = .ok (.dup, 1)) (d4 : decode cc (pc + 4) = .ok (.ldc is, 2)) (d6 : decode cc (pc + 6) = .ok (.invokespecial ic, 3)) (d9 : decode cc (pc + 9) = .ok (.athrow, 1)) (hstr : (is, text) ∈ k_strs) (hfl : (Nat.ble 6 fr && Nat.ble 90 lo) = true) : Sd ad X pc (tt_thr cls res) := by
  obtain ⟨p, l, e, R, s, m, args, below, meth, c, Q, D, cI, cL, A0, H0, ck, cn⟩ := X
  obtain ⟨hx, hb, hml, hown, hts, hK, hD, hA, hR⟩ := C0
  obtain ⟨hg, hng, hot, hcl, hini⟩ := hat
  rw [Bool.and_eq_true] at hfl
  intro L st M h H locs ls hP hS hl
  obtain ⟨hlen, h⟩ := h
  obtain ⟨hst, hZ, rfl, hex, hlk, hc1, hc2, hQ⟩ := T0 cls M h
  obtain ⟨z1, z2, z3, z4, z5⟩ := hZ
  obtain ⟨sa, hsa⟩ := z3 _ hstr
  have q1 := k_len _ hlen
  have q2 := Nat.le_of_ble_eq_true hfl.1
  have q3 := Nat.le_of_ble_eq_true hfl.2
  have q4 := hR.1
  have q5 := hR.2.1
  refine k_mono (vx_throwS (mc := ck + 1) (ms := cn + 6) (names := ["java/lang/RuntimeException", "java/lang/Exception"]) (A := A0) (Qc := fun _ _ _ _ => False) (XC := fun E' _ t => E' = cls ∧ H.size ≤ t.heap.size ∧ (∀ q : Nat, q < H.size → t.heap[q]? = H[q]?) ∧ s.vm.Alike t.vm) hx hb hst hown hfit (by decide +kernel) (hts _ hcl) (hts _ hini) hsa
    (vx_hat (B := k_bad cls) (fun w hw => hts w (hg w hw)) hng (vx_c (va_Nw.use rfl (z4 cls hE)) (fun w hw => by
      obtain ⟨x, hx9, rfl⟩ := List.mem_map.mp hw
      exact va_Nw.use rfl (z5 x hx9)))) hot z1 z2 hS hl.1 d0 d3 d4 d6 d9 (fun x hx9 => (hex x hx9).elim) (by show 2 + 3 < _; omega) (by show _ + (13 * (2 + 1) + 43) ≤ _; omega) hc1 hc2 hlk (fun t a b c9 => ⟨rfl, b, c9, a⟩) hS.2.2 (Nat.le_refl _) (Nat.le_refl _)) (hQ H locs hP hS)
theorem ss_thrS {is : Nat} {text : String} (C0 : k_C ad X cc RX3 nL fr lo) (T0 : k_T ad X res) (d0 : decode cc pc = .ok (.new 40, 3)) (d3 : decode cc (pc + 3) = .ok (.dup, 1)) (d4 : decode cc (pc + 4) = .ok (.ldc is, 2)) (d6 : decode cc (pc + 6) = .ok (.invokespecial 44, 3)) (d9 : decode cc (pc + 9) = .ok (.athrow, 1)) (hstr : (is, text) ∈ k_strs) (hfl : (Nat.ble 6 fr && Nat.ble 90 lo) = true) : Sd ad X pc (tt_thr k_ISE res) := ss_thr (by decide +kernel) (by decide) k_atS C0 T0 d0 d3 d4 d6 d9 hstr hfl
theorem ss_thrA {is : Nat} {text : String} (C0 : k_C ad X cc RX3 nL fr lo) (T0 : k_T ad X res) (d0 : decode cc pc = .ok (.new 133, 3)) (d3 : decode cc (pc + 3) = .ok (.dup, 1)) (d4 : decode cc (pc + 4) = .ok (.ldc is, 2)) (d6 : decode cc (pc + 6) = .ok (.invokespecial 137, 3)) (d9 : decode cc (pc + 9) = .ok (.athrow, 1)) (hstr : (is, text) ∈ k_strs) (hfl : (Nat.ble 6 fr && Nat.ble 90 lo) = true) : Sd ad X pc (tt_thr k_IAE res) := ss_thr (by decide +kernel) (by decide) k_atA C0 T0 d0 d3 d4 d6 d9 hstr hfl
theorem ss_thrI {is : Nat} {text : String} (C0 : k_C ad X cc RX3 nL fr lo) (T0 : k_T ad X res) (d0 : decode cc pc = .ok (.new 214, 3)) (d3 : decode cc (pc + 3) = .ok (.dup, 1)) (d4 : decode cc (pc + 4) = .ok (.ldc is, 2)) (d6 : decode cc (pc + 6) = .ok (.invokespecial 218, 3)) (d9 : decode cc (pc + 9) = .ok (.athrow, 1)) (hstr : (is, text) ∈ k_strs) (hfl : (Nat.ble 6 fr && Nat.ble 90 lo) = true) : Sd ad X pc (tt_thr k_IOE res) := ss_thr (by decide +kernel) (by decide) k_atI C0 T0 d0 d3 d4 d6 d9 hstr hfl
theorem k_preZ {ad : Nat → Nat} {D : va_G} {cI cL : ClassId} {M : Mm} {sz : Nat} {av : List Value} : FrameBlind (va_Pc av (fun U => U.heap.size = sz ∧ k_B ad D cI cL M U ∧ k_Z (k_A ad sz) U U.heap)) :=
  fun a U g mk q => by
    obtain ⟨q0, q1, ⟨qP, qK⟩, qZ⟩ := q
    exact ⟨q0, q1, ⟨qP, va_K.moved (u := U) (U := U.calling g mk a) (Vm.Alike.refl U.vm) qK⟩, k_Z.same (u := U) (U := U.calling g mk a) rfl qZ⟩
/-- behind a call that throws: not caught here -/
theorem k_callx {p : Program} {l : Launch} {e : Env} {R : Room} {s : State} {m : MethodId} {args : Array Value} {below : List Frame} {meth : Method} {c : Code} {H : Heap} {locs : List Loc} {cells slots : Nat} {Q : State → Prop} {ls : Array Slot} {rest st0 : List Value} {A0 A1 : Nat → Prop} {H0 : Heap} {mc ms : Nat} {free : Addr → Prop} {D : va_G} {cI cL : ClassId} {r : String × Mm}
    (hr : vx_Run p l e R s m args below meth c H locs cells slots mc ms (F0 m pc ls st0) rest (fun _ _ _ => False) (fun E st t => E = r.1 ∧ k_B ad D cI cL r.2 t ∧ va_F A1 st t) free) (hS : va_S A0 H0 H locs) (hA : ∀ q, q < H.size → A1 q → A0 q) (hf : ∀ q, free q → A0 q)
    (kx : ∀ (H1 : Heap) (locs1 : List Loc) (ce : Cell) (q9 : Addr), va_P D vwCl (k_W ad cI cL r.2) H1 → va_S A0 H0 H1 locs1 → H1[q9]? = some ce → ce.vm = .none → s.vm.findClass r.1 = some ce.cls → vx_W p l e R s m args below meth c H1 locs1 (cells + mc) (slots + ms) Q (F0 m pc ls rest) q9) : W p l e R s m args below meth c H locs cells slots Q (F0 m pc ls st0) := by
  intro T hT X
  rcases hr T hT X with ⟨v, st₀, t, T', L, h0, X', hL, e1, e2, hv, st⟩ | ⟨q, st₀, t, T', L, E, ce, h0, X', hL, e1, e2, ⟨rfl, hb, hF⟩, hce, hcv, hcl, st⟩
  · exact hv.elim
  · obtain ⟨k1, k2, k3⟩ := vx_keep h0 e1 hS hA hf hL hF
    obtain ⟨t2, a1, b1⟩ := kx T'.heap (locs ++ L) ce q (by rw [e1]; exact hb.1) k3 (by rw [e1]; exact hce) hcv hcl T' rfl X'
    exact ⟨t2, st.trans a1, b1⟩
theorem ss_xv {o n index mL fr2 lo2 : Nat} {C : String} {y : MethodName} {cb : ByteArray} {ret : Option FieldType} {F : Sp} (ho : k_rc o C) (C0 : k_C ad X cc own nL fr lo) (T0 : k_T ad X res) (d : decode cc pc = .ok (.invokevirtual index, 3)) (hw : k_wv own index y cb mL ret n) (hyC : y.cls = C) (hc : k_cv ad X y cb mL ret fr2 lo2 (fun As => .ref (ad o) :: As) F) (hcx : k_ct ad X y cb mL ret fr2 lo2 (fun As => .ref (ad o) :: As) F) (hfl : ((fr2 + 1).ble fr && (8 + (mL + 11) + lo2).ble lo) = true) (k : Sd ad X (pc + 3) t) : Sd ad X pc (tt_xv ad o n F res t) := by
  intro L st M h
  unfold tt_xv at h
  split at h
  · next a rest hst =>
    obtain ⟨ha, hlen, h⟩ := h
    split at h
    · next r hF =>
      refine ss_cv (F := F) ho C0 d hw hyC hc hfl k L st M ?_
      unfold tt_cv
      rw [hst]
      exact ⟨ha, hlen, by rw [hF]; exact h⟩
    · next r hF =>
      subst ha
      obtain ⟨p, l, e, R, s, m, args, below, meth, c, Q, D, cI, cL, A0, H0, ck, cn⟩ := X
      obtain ⟨hx, hb, hml, hown, hts, hK, hD, hA, hR⟩ := C0
      intro H locs ls hP hS hl
      subst hyC
      rw [Bool.and_eq_true] at hfl
      obtain ⟨w1, w2, w3, w4, w5, w6, w7, w8⟩ := hw
      obtain ⟨hstt, hZ, rfl, hex, hlk, hc1, hc2, hQ⟩ := T0 r.1 r.2 h
      have hM := hcx _ M r hF H.size
      have hl4 := k_len rest hlen
      have hst2 : st = (st.take n).reverse.reverse ++ .ref (ad o) :: rest := by
        rw [List.reverse_reverse, ← hst, List.take_append_drop]
      have hn : (st.take n).reverse.length = n := by
        rw [List.length_reverse, List.length_take]
        have : (st.drop n).length = (Value.ref (ad o) :: rest).length := by rw [hst]
        rw [List.length_drop, List.length_cons] at this
        omega
      obtain ⟨ci, q, hc1', hc2', hc3'⟩ := ho
      obtain ⟨fs, hfs⟩ := hc3' ad cI cL M
      have hG : GoodIn k_G (wsV own index y.cls y (Cond.code y cb mL ret :: k_G)) := by
        intro w hw
        unfold wsV at hw
        rcases List.mem_append.mp hw with hw | hw
        · simp only [List.mem_cons, List.not_mem_nil, or_false] at hw
          rcases hw with rfl | rfl | rfl | rfl
          · exact k_good _ w1
          · exact k_good _ w2
          · exact k_good _ w3
          · exact k_good _ w4
        · exact k_cons w5 w hw
      have hfr : fr2 + 1 ≤ R.frames ∧ 8 + (mL + 11) + lo2 ≤ R.locals := ⟨Nat.le_trans (Nat.le_of_ble_eq_true hfl.1) hR.1, Nat.le_trans (Nat.le_of_ble_eq_true hfl.2) hR.2.1⟩
      have hAA := k_AA (M := M) (D := D) hD hA hS
      refine k_callx (vx_runV (As := (st.take n).reverse) (rest := rest) ⟨hx, hb, hml, hown, hts⟩ hM (cwV n hts hG rfl rfl rfl ⟨rfl, w6, w7, w8⟩ hfr) ⟨k_preZ, ?_, fun U hU hW => ⟨rfl, by rw [hU], ⟨by rw [hU]; exact hP, va_K.moved hW.alike hK⟩, by rw [hU]; exact hZ.next hS hAA hW⟩⟩ rfl hn (by rw [← hml]; exact hl.1) hst2 (lv_room hl4) d ⟨hc1, hc2⟩) hS (fun q _ z => hAA q z) hAA ?_
      · have := va_recv hK hP hc1' hfs
        rw [hc2'] at this
        exact this
      · intro H1 locs1 ce q9 hP1 hS1 hce hcv hcl
        intro T hT X'
        obtain ⟨t, a1, b1⟩ := vx_out (Qc := fun _ _ _ _ => False) (XC := fun E' _ t => E' = r.1 ∧ H1.size ≤ t.heap.size ∧ (∀ q : Nat, q < H1.size → t.heap[q]? = H1[q]?) ∧ s.vm.Alike t.vm) (mc := ck + 1) (ms := cn + 6) (fun x hx9 => (hex x hx9).elim) hlk hce hcv hcl (fun t ht hal => ⟨rfl, by rw [ht]; exact Nat.le_refl _, fun q _ => by rw [ht], hal⟩) hS1.2.2 (Nat.le_refl _) (Nat.le_refl _) T hT X'
        exact ⟨t, a1, hQ H1 locs1 hP1 hS1 t b1⟩
    · exact h.elim
  · exact h.elim
theorem ss_xs {n index mL fr2 lo2 : Nat} {y : MethodName} {cb : ByteArray} {ret : Option FieldType} {F : Sp} (C0 : k_C ad X cc own nL fr lo) (T0 : k_T ad X res) (d : decode cc pc = .ok (.invokestatic index, 3)) (hw : k_ws own index y cb mL ret n) (hc : k_cv ad X y cb mL ret fr2 lo2 (fun As => As) F) (hcx : k_ct ad X y cb mL ret fr2 lo2 (fun As => As) F) (hfl : ((fr2 + 1).ble fr && (8 + (mL + 11) + lo2).ble lo) = true) (k : Sd ad X (pc + 3) t) : Sd ad X pc (tt_xs n F res t) := by
  intro L st M h
  unfold tt_xs at h
  obtain ⟨hn0, hlen, h⟩ := h
  split at h
  · next r hF =>
    refine ss_cs (F := F) C0 d hw hc hfl k L st M ?_
    unfold tt_cs
    exact ⟨hn0, hlen, by rw [hF]; exact h⟩
  · next r hF =>
    obtain ⟨p, l, e, R, s, m, args, below, meth, c, Q, D, cI, cL, A0, H0, ck, cn⟩ := X
    obtain ⟨hx, hb, hml, hown, hts, hK, hD, hA, hR⟩ := C0
    intro H locs ls hP hS hl
    rw [Bool.and_eq_true] at hfl
    obtain ⟨w1, w2, w4, w5, w6, w7, w8⟩ := hw
    obtain ⟨hstt, hZ, rfl, hex, hlk, hc1, hc2, hQ⟩ := T0 r.1 r.2 h
    have hM := hcx _ M r hF H.size
    have hl4 := k_len _ hlen
    have hst2 : st = (st.take n).reverse.reverse ++ st.drop n := by
      rw [List.reverse_reverse, List.take_append_drop]
    have hn : (st.take n).reverse.length = n := by
      rw [List.length_reverse, List.length_take]
      omega
    have hfr : fr2 + 1 ≤ R.frames ∧ 8 + (mL + 11) + lo2 ≤ R.locals := ⟨Nat.le_trans (Nat.le_of_ble_eq_true hfl.1) hR.1, Nat.le_trans (Nat.le_of_ble_eq_true hfl.2) hR.2.1⟩
    have hAA := k_AA (M := M) (D := D) hD hA hS
    refine k_callx (vx_runS (As := (st.take n).reverse) (rest := st.drop n) ⟨hx, hb, hml, hown, hts⟩ hM ⟨callB_of n hts (k_cons w5) rfl rfl rfl (hts _ w4) (hts _ w1) ⟨w6, w7, w8⟩ hfr, hts _ w2⟩ ⟨k_preZ, fun U hU hW => ⟨rfl, by rw [hU], ⟨by rw [hU]; exact hP, va_K.moved hW.alike hK⟩, by rw [hU]; exact hZ.next hS hAA hW⟩⟩ rfl hn (by rw [← hml]; exact hl.1) hst2 (lv_room hl4) d ⟨hc1, hc2⟩) hS (fun q _ z => hAA q z) hAA ?_
    intro H1 locs1 ce q9 hP1 hS1 hce hcv hcl
    intro T hT X'
    obtain ⟨t, a1, b1⟩ := vx_out (Qc := fun _ _ _ _ => False) (XC := fun E' _ t => E' = r.1 ∧ H1.size ≤ t.heap.size ∧ (∀ q : Nat, q < H1.size → t.heap[q]? = H1[q]?) ∧ s.vm.Alike t.vm) (mc := ck + 1) (ms := cn + 6) (fun x hx9 => (hex x hx9).elim) hlk hce hcv hcl (fun t ht hal => ⟨rfl, by rw [ht]; exact Nat.le_refl _, fun q _ => by rw [ht], hal⟩) hS1.2.2 (Nat.le_refl _) (Nat.le_refl _) T hT X'
    exact ⟨t, a1, hQ H1 locs1 hP1 hS1 t b1⟩
  · exact h.elim
end KT
/-- the contract of a throw out of a tree that is sound at every frame -/
theorem k_thr {l : Launch} {ad : Nat → Nat} {D : va_G} {cI cL : ClassId} {y : MethodName} {cc : ByteArray} {nL fr lo : Nat} {ret : Option FieldType} {av : List Value → List Value} {F : Sp} {tree : Rs → Tr} (hI : k_I ad) (hf : l.stackTraces = false) (hy : plainName y.cls = true)
    (hs : ∀ (X : Cx) (res : Rs), X.2.1 = l → (X.2.2.2.2.2.2.2.2.2.2.2.1 = D ∧ X.2.2.2.2.2.2.2.2.2.2.2.2.1 = cI ∧ X.2.2.2.2.2.2.2.2.2.2.2.2.2.1 = cL) → k_C ad X cc y.cls nL fr lo → k_E ad X ret res → k_T ad X res → Sd ad X 0 (tree res))
    (hp : ∀ As M e, F As M = some (.inr e) → ((lg_sl (av As)).length ≤ nL ∧ ∃ L : Ls, (∀ q ∈ k_asc 0 L, q ∈ lv_args 0 (av As)) ∧ tree (.inr e) L [] M)) :
    k_Thr l ad D cI cL y cc nL ret fr lo av F := by
  intro As M r hF sz
  obtain ⟨hlen, L, hL, ht⟩ := hp As M r hF
  refine vx_ofW (cc := cc) (maxL := nL) (ret := ret) hy rfl ?_
  intro p e s m args below meth c s₁ B hml hex hv
  obtain ⟨rfl, hsz, ⟨hP, hK⟩, hZ⟩ := hv
  have hts := atoms_spec (ws := Cond.code y cc nL ret :: k_G) B.pre
  subst hsz
  have hl := lv_entry (av As) (n := nL) hlen
  rw [lg_entry_eq]
  generalize (lg_sl (av As) ++ List.replicate (nL - (lg_sl (av As)).length) Slot.unset).toArray = ls at hl ⊢
  have hl2 : lv_has ls c.maxLocals (k_asc 0 L) := by rw [hml]; exact ⟨hl.1, hl.2.1, fun q hq => hl.2.2 q (hL q hq)⟩
  exact hs (p, l, e, _, s, m, _, below, meth, c, _, D, cI, cL, k_A ad s.heap.size, s.heap, 0, 0) (.inr r) rfl ⟨rfl, rfl, rfl⟩
    ⟨B.exec, B.bytes, hml, findClass_of_methodNamed B.named, fun w hw => hts w (List.mem_cons_of_mem _ hw), hK, k_WD hI _ cI cL, fun q hq => Or.inr hq, Nat.le_refl _, Nat.le_refl _, Nat.zero_le _, Nat.zero_le _⟩
    ⟨B.returns, B.notSynchronized, fun o M1 H locs he => by cases he⟩
    (fun E M1 he => by
      cases he
      refine ⟨hf, hZ, rfl, hex, B.notSynchronized, Nat.le_refl _, Nat.le_refl _, fun H locs hP1 hS1 t hQ => ?_⟩
      obtain ⟨oc, b1, b2, b3⟩ := hQ
      refine ⟨oc, b1, b2, ?_⟩
      rcases b3 with ⟨h, -⟩ | ⟨q, ho, E', ce, L', ⟨rfl, h2, h3, h4⟩, g2, g3, g4, g5, g6, g7⟩
      · exact h.elim
      · refine Or.inr ⟨q, ho, _, ce, L', ⟨rfl, ⟨?_, va_K.moved h4 hK⟩, ?_⟩, g2, g3, g4, g5, g6, g7⟩
        · refine hP1.kept (fun k q1 hk => h3 q1.1 ?_)
          exact (hP1 k q1 hk).lt
        · exact ⟨Nat.le_trans hS1.1 h2, fun q1 hq1 hq2 => by rw [h3 q1 (Nat.lt_of_lt_of_le hq1 hS1.1)]; exact hS1.2.1 q1 hq1 hq2⟩) L [] M ht s.heap [] ls hP va_S.rf hl2

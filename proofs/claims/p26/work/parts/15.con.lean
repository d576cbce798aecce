/-! printed by wip/p26/gencon.py: a contract out of a pure fact of its tree -/
theorem k_cvOf {l : Launch} {ad : Nat → Nat} {D : va_G} {cI cL : ClassId} {X : Cx} {y : MethodName} {cc : ByteArray} {nL fr lo : Nat} {ret : Option FieldType} {av : List Value → List Value} {F : Sp} (hl : X.2.1 = l) (hD : X.2.2.2.2.2.2.2.2.2.2.2.1 = D ∧ X.2.2.2.2.2.2.2.2.2.2.2.2.1 = cI ∧ X.2.2.2.2.2.2.2.2.2.2.2.2.2.1 = cL) (h : k_Con l ad D cI cL y cc nL ret fr lo av F) : k_cv ad X y cc nL ret fr lo av F := by
  obtain ⟨p, l, e, R, s, m, args, below, meth, c, Q, D, cI, cL, A0, H0, ck, cn⟩ := X
  obtain rfl := hl
  obtain ⟨rfl, rfl, rfl⟩ := hD
  exact h
theorem k_ctOf {l : Launch} {ad : Nat → Nat} {D : va_G} {cI cL : ClassId} {X : Cx} {y : MethodName} {cc : ByteArray} {nL fr lo : Nat} {ret : Option FieldType} {av : List Value → List Value} {F : Sp} (hl : X.2.1 = l) (hD : X.2.2.2.2.2.2.2.2.2.2.2.1 = D ∧ X.2.2.2.2.2.2.2.2.2.2.2.2.1 = cI ∧ X.2.2.2.2.2.2.2.2.2.2.2.2.2.1 = cL) (h : k_Thr l ad D cI cL y cc nL ret fr lo av F) : k_ct ad X y cc nL ret fr lo av F := by
  obtain ⟨p, l, e, R, s, m, args, below, meth, c, Q, D, cI, cL, A0, H0, ck, cn⟩ := X
  obtain rfl := hl
  obtain ⟨rfl, rfl, rfl⟩ := hD
  exact h
theorem k_inL {L : Ls} {l : List (Nat × Value)} (h : k_asc 0 L = l) : ∀ q ∈ k_asc 0 L, q ∈ l := fun q hq => by rw [← h]; exact hq
theorem k_con2 {l : Launch} {ad : Nat → Nat} {D : va_G} {cI cL : ClassId} {y : MethodName} {cc : ByteArray} {nL fr lo : Nat} {ret : Option FieldType} {av : List Value → List Value} {F : Sp} {tree : Rs → Tr} (hI : k_I ad) (hy : plainName y.cls = true)
    (hs : ∀ (X : Cx) (res : Rs), X.2.1 = l → (X.2.2.2.2.2.2.2.2.2.2.2.1 = D ∧ X.2.2.2.2.2.2.2.2.2.2.2.2.1 = cI ∧ X.2.2.2.2.2.2.2.2.2.2.2.2.2.1 = cL) → k_C ad X cc y.cls nL fr lo → k_E ad X ret res → k_T ad X res → Sd ad X 0 (tree res))
    (hp : ∀ As M r, F As M = some (.inl r) → ((lg_sl (av As)).length ≤ nL ∧ ∃ L : Ls, (∀ q ∈ k_asc 0 L, q ∈ lv_args 0 (av As)) ∧ tree (.inl r) L [] M)) :
    k_Con l ad D cI cL y cc nL ret fr lo av F := by
  intro As M r hF sz
  obtain ⟨hlen, L, hL, ht⟩ := hp As M r hF
  refine Met.ofW (cc := cc) (maxL := nL) (ret := ret) hy rfl ?_
  intro p e s m args below meth c s₁ B hml hv
  obtain ⟨rfl, hsz, hP, hK⟩ := hv
  have hts := atoms_spec (ws := Cond.code y cc nL ret :: k_G) B.pre
  subst hsz
  have hl := lv_entry (av As) (n := nL) hlen
  rw [lg_entry_eq]
  generalize (lg_sl (av As) ++ List.replicate (nL - (lg_sl (av As)).length) Slot.unset).toArray = ls at hl ⊢
  have hl2 : lv_has ls c.maxLocals (k_asc 0 L) := by rw [hml]; exact ⟨hl.1, hl.2.1, fun q hq => hl.2.2 q (hL q hq)⟩
  exact hs (p, l, e, _, s, m, _, below, meth, c, _, D, cI, cL, k_A ad s.heap.size, s.heap, 0, 0) (.inl r) rfl ⟨rfl, rfl, rfl⟩
    ⟨B.exec, B.bytes, hml, findClass_of_methodNamed B.named, fun w hw => hts w (List.mem_cons_of_mem _ hw), hK, k_WD hI _ cI cL, fun q hq => Or.inr hq, Nat.le_refl _, Nat.le_refl _, Nat.le_refl _, Nat.le_refl _⟩
    ⟨B.returns, B.notSynchronized, fun o M1 H locs he hP1 hS1 t hQ => by
      cases he
      obtain ⟨oc, b1, b2, ⟨h1, h2, h3⟩, b4⟩ := hQ
      exact ⟨oc, b1, b2, ⟨h1, ⟨by rw [h2]; exact hP1, va_K.moved h3.alike hK⟩, hS1.F h2⟩, b4⟩⟩
    (fun E M1 he => by cases he) L [] M ht s.heap [] ls hP va_S.rf hl2
theorem con_X0_value {l : Launch} {ad : Nat → Nat} {D : va_G} {cI cL : ClassId} (hI : k_I ad) {f : Int32 → Int32 → Mm → Option Rs} (hp : ∀ (x0 : Int32) (x1 : Int32) (M : Mm) (r : Rs), f x0 x1 M = some r → T_X0_value_0 ad r [some (.ref (ad 2)), some (.int x0), some (.int x1)] [] M) : Co_X0_value l ad D cI cL (sp_II f) := by
  exact k_con (tree := fun r => T_X0_value_0 ad r) hI (plainFor_of_name (by decide +kernel)) (fun X res hl hD C E => S_X0_value_0 C E) (fun As M r hF => by
    unfold sp_II at hF
    split at hF
    · exact ⟨Nat.le_of_ble_eq_true rfl, _, k_inL rfl, hp _ _ M _ hF⟩
    · cases hF)
theorem con_X0_setValue {l : Launch} {ad : Nat → Nat} {D : va_G} {cI cL : ClassId} (hI : k_I ad) {f : Int32 → Int32 → Int32 → Mm → Option Rs} (hp : ∀ (x0 : Int32) (x1 : Int32) (x2 : Int32) (M : Mm) (r : Rs), f x0 x1 x2 M = some r → T_X0_setValue_0 ad r [some (.ref (ad 2)), some (.int x0), some (.int x1), some (.int x2)] [] M) : Co_X0_setValue l ad D cI cL (sp_III f) := by
  exact k_con (tree := fun r => T_X0_setValue_0 ad r) hI (plainFor_of_name (by decide +kernel)) (fun X res hl hD C E => S_X0_setValue_0 C E) (fun As M r hF => by
    unfold sp_III at hF
    split at hF
    · exact ⟨Nat.le_of_ble_eq_true rfl, _, k_inL rfl, hp _ _ _ M _ hF⟩
    · cases hF)
theorem con_X0_addToValue {l : Launch} {ad : Nat → Nat} {D : va_G} {cI cL : ClassId} {F_X0_setValue F_X0_value : Sp} (hI : k_I ad) (h_X0_setValue : Co_X0_setValue l ad D cI cL F_X0_setValue) (h_X0_value : Co_X0_value l ad D cI cL F_X0_value) {f : Int32 → Int32 → Int32 → Mm → Option Rs} (hp : ∀ (x0 : Int32) (x1 : Int32) (x2 : Int32) (M : Mm) (r : Rs), f x0 x1 x2 M = some r → T_X0_addToValue_0 ad r F_X0_setValue F_X0_value [some (.ref (ad 2)), some (.int x0), some (.int x1), some (.int x2)] [] M) : Co_X0_addToValue l ad D cI cL (sp_III f) := by
  exact k_con (tree := fun r => T_X0_addToValue_0 ad r F_X0_setValue F_X0_value) hI (plainFor_of_name (by decide +kernel)) (fun X res hl hD C E => S_X0_addToValue_0 C E (k_cvOf hl hD h_X0_setValue) (k_cvOf hl hD h_X0_value)) (fun As M r hF => by
    unfold sp_III at hF
    split at hF
    · exact ⟨Nat.le_of_ble_eq_true rfl, _, k_inL rfl, hp _ _ _ M _ hF⟩
    · cases hF)
theorem con_X0_parentOf {l : Launch} {ad : Nat → Nat} {D : va_G} {cI cL : ClassId} (hI : k_I ad) {f : Int32 → Int32 → Mm → Option Rs} (hp : ∀ (x0 : Int32) (x1 : Int32) (M : Mm) (r : Rs), f x0 x1 M = some r → T_X0_parentOf_0 ad r [some (.ref (ad 2)), some (.int x0), some (.int x1)] [] M) : Co_X0_parentOf l ad D cI cL (sp_II f) := by
  exact k_con (tree := fun r => T_X0_parentOf_0 ad r) hI (plainFor_of_name (by decide +kernel)) (fun X res hl hD C E => S_X0_parentOf_0 C E) (fun As M r hF => by
    unfold sp_II at hF
    split at hF
    · exact ⟨Nat.le_of_ble_eq_true rfl, _, k_inL rfl, hp _ _ M _ hF⟩
    · cases hF)
theorem con_X0_addChildren {l : Launch} {ad : Nat → Nat} {D : va_G} {cI cL : ClassId} {F_X0_setValue F_X0_value : Sp} (hI : k_I ad) (h_X0_setValue : Co_X0_setValue l ad D cI cL F_X0_setValue) (h_X0_value : Co_X0_value l ad D cI cL F_X0_value) {f : Int32 → Int32 → Int32 → Mm → Option Rs} (hp : ∀ (x0 : Int32) (x1 : Int32) (x2 : Int32) (M : Mm) (r : Rs), f x0 x1 x2 M = some r → T_X0_addChildren_0 ad r F_X0_setValue F_X0_value [some (.ref (ad 2)), some (.int x0), some (.int x1), some (.int x2), none] [] M) : Co_X0_addChildren l ad D cI cL (sp_III f) := by
  exact k_con (tree := fun r => T_X0_addChildren_0 ad r F_X0_setValue F_X0_value) hI (plainFor_of_name (by decide +kernel)) (fun X res hl hD C E => S_X0_addChildren_0 C E (k_cvOf hl hD h_X0_setValue) (k_cvOf hl hD h_X0_value)) (fun As M r hF => by
    unfold sp_III at hF
    split at hF
    · exact ⟨Nat.le_of_ble_eq_true rfl, _, k_inL rfl, hp _ _ _ M _ hF⟩
    · cases hF)
theorem con_X0_moveTo {l : Launch} {ad : Nat → Nat} {D : va_G} {cI cL : ClassId} {F_X0_addChildren : Sp} (hI : k_I ad) (h_X0_addChildren : Co_X0_addChildren l ad D cI cL F_X0_addChildren) {f : Int32 → Int32 → Int32 → Mm → Option Rs} (hp : ∀ (x0 : Int32) (x1 : Int32) (x2 : Int32) (M : Mm) (r : Rs), f x0 x1 x2 M = some r → T_X0_moveTo_0 ad r F_X0_addChildren [some (.ref (ad 2)), some (.int x0), some (.int x1), some (.int x2), none] [] M) : Co_X0_moveTo l ad D cI cL (sp_III f) := by
  exact k_con (tree := fun r => T_X0_moveTo_0 ad r F_X0_addChildren) hI (plainFor_of_name (by decide +kernel)) (fun X res hl hD C E => S_X0_moveTo_0 C E (k_cvOf hl hD h_X0_addChildren)) (fun As M r hF => by
    unfold sp_III at hF
    split at hF
    · exact ⟨Nat.le_of_ble_eq_true rfl, _, k_inL rfl, hp _ _ _ M _ hF⟩
    · cases hF)
theorem con_X0_figure {l : Launch} {ad : Nat → Nat} {D : va_G} {cI cL : ClassId} (hI : k_I ad) {f : Int32 → Mm → Option Rs} (hp : ∀ (x0 : Int32) (M : Mm) (r : Rs), f x0 M = some r → T_X0_figure_0 ad r [some (.ref (ad 2)), some (.int x0)] [] M) : Co_X0_figure l ad D cI cL (sp_I f) := by
  exact k_con (tree := fun r => T_X0_figure_0 ad r) hI (plainFor_of_name (by decide +kernel)) (fun X res hl hD C E => S_X0_figure_0 C E) (fun As M r hF => by
    unfold sp_I at hF
    split at hF
    · exact ⟨Nat.le_of_ble_eq_true rfl, _, k_inL rfl, hp _ M _ hF⟩
    · cases hF)
theorem con_X0_setFigure {l : Launch} {ad : Nat → Nat} {D : va_G} {cI cL : ClassId} (hI : k_I ad) {f : Int32 → Int32 → Mm → Option Rs} (hp : ∀ (x0 : Int32) (x1 : Int32) (M : Mm) (r : Rs), f x0 x1 M = some r → T_X0_setFigure_0 ad r [some (.ref (ad 2)), some (.int x0), some (.int x1)] [] M) : Co_X0_setFigure l ad D cI cL (sp_II f) := by
  exact k_con (tree := fun r => T_X0_setFigure_0 ad r) hI (plainFor_of_name (by decide +kernel)) (fun X res hl hD C E => S_X0_setFigure_0 C E) (fun As M r hF => by
    unfold sp_II at hF
    split at hF
    · exact ⟨Nat.le_of_ble_eq_true rfl, _, k_inL rfl, hp _ _ M _ hF⟩
    · cases hF)
theorem con_X0_addToFigure {l : Launch} {ad : Nat → Nat} {D : va_G} {cI cL : ClassId} {F_X0_figure F_X0_setFigure : Sp} (hI : k_I ad) (h_X0_figure : Co_X0_figure l ad D cI cL F_X0_figure) (h_X0_setFigure : Co_X0_setFigure l ad D cI cL F_X0_setFigure) {f : Int32 → Int32 → Mm → Option Rs} (hp : ∀ (x0 : Int32) (x1 : Int32) (M : Mm) (r : Rs), f x0 x1 M = some r → T_X0_addToFigure_0 ad r F_X0_figure F_X0_setFigure [some (.ref (ad 2)), some (.int x0), some (.int x1)] [] M) : Co_X0_addToFigure l ad D cI cL (sp_II f) := by
  exact k_con (tree := fun r => T_X0_addToFigure_0 ad r F_X0_figure F_X0_setFigure) hI (plainFor_of_name (by decide +kernel)) (fun X res hl hD C E => S_X0_addToFigure_0 C E (k_cvOf hl hD h_X0_figure) (k_cvOf hl hD h_X0_setFigure)) (fun As M r hF => by
    unfold sp_II at hF
    split at hF
    · exact ⟨Nat.le_of_ble_eq_true rfl, _, k_inL rfl, hp _ _ M _ hF⟩
    · cases hF)
theorem con_X0_copyTo {l : Launch} {ad : Nat → Nat} {D : va_G} {cI cL : ClassId} (hI : k_I ad) {f : Int32 → Mm → Option Rs} (hp : ∀ (x1 : Int32) (M : Mm) (r : Rs), f x1 M = some r → T_X0_copyTo_0 ad r [some (.ref (ad 2)), some (.ref (ad 5)), some (.int x1)] [] M) : Co_X0_copyTo l ad D cI cL (sp_R5I ad f) := by
  exact k_con (tree := fun r => T_X0_copyTo_0 ad r) hI (plainFor_of_name (by decide +kernel)) (fun X res hl hD C E => S_X0_copyTo_0 C E) (fun As M r hF => by
    unfold sp_R5I at hF
    split at hF
    · split at hF
      · next hc =>
        obtain rfl := hc
        exact ⟨Nat.le_of_ble_eq_true rfl, _, k_inL rfl, hp _ M _ hF⟩
      · cases hF
    · cases hF)
theorem con_X0_copyFrom {l : Launch} {ad : Nat → Nat} {D : va_G} {cI cL : ClassId} (hI : k_I ad) {f : Int32 → Mm → Option Rs} (hp : ∀ (x1 : Int32) (M : Mm) (r : Rs), f x1 M = some r → T_X0_copyFrom_0 ad r [some (.ref (ad 2)), some (.ref (ad 5)), some (.int x1)] [] M) : Co_X0_copyFrom l ad D cI cL (sp_R5I ad f) := by
  exact k_con (tree := fun r => T_X0_copyFrom_0 ad r) hI (plainFor_of_name (by decide +kernel)) (fun X res hl hD C E => S_X0_copyFrom_0 C E) (fun As M r hF => by
    unfold sp_R5I at hF
    split at hF
    · split at hF
      · next hc =>
        obtain rfl := hc
        exact ⟨Nat.le_of_ble_eq_true rfl, _, k_inL rfl, hp _ M _ hF⟩
      · cases hF
    · cases hF)
theorem con_X1_depthOf {l : Launch} {ad : Nat → Nat} {D : va_G} {cI cL : ClassId} {F_X0_parentOf : Sp} (hI : k_I ad) (h_X0_parentOf : Co_X0_parentOf l ad D cI cL F_X0_parentOf) {f : Int32 → Int32 → Mm → Option Rs} (hp : ∀ (x0 : Int32) (x1 : Int32) (M : Mm) (r : Rs), f x0 x1 M = some r → T_X1_depthOf_0 ad r F_X0_parentOf [some (.ref (ad 1)), some (.int x0), some (.int x1), none, none] [] M) : Co_X1_depthOf l ad D cI cL (sp_II f) := by
  exact k_con (tree := fun r => T_X1_depthOf_0 ad r F_X0_parentOf) hI (plainFor_of_name (by decide +kernel)) (fun X res hl hD C E => S_X1_depthOf_0 C E (k_cvOf hl hD h_X0_parentOf)) (fun As M r hF => by
    unfold sp_II at hF
    split at hF
    · exact ⟨Nat.le_of_ble_eq_true rfl, _, k_inL rfl, hp _ _ M _ hF⟩
    · cases hF)
theorem con_X1_isUnder {l : Launch} {ad : Nat → Nat} {D : va_G} {cI cL : ClassId} {F_X0_parentOf : Sp} (hI : k_I ad) (h_X0_parentOf : Co_X0_parentOf l ad D cI cL F_X0_parentOf) {f : Int32 → Int32 → Int32 → Mm → Option Rs} (hp : ∀ (x0 : Int32) (x1 : Int32) (x2 : Int32) (M : Mm) (r : Rs), f x0 x1 x2 M = some r → T_X1_isUnder_0 ad r F_X0_parentOf [some (.ref (ad 1)), some (.int x0), some (.int x1), some (.int x2), none, none] [] M) : Co_X1_isUnder l ad D cI cL (sp_III f) := by
  exact k_con (tree := fun r => T_X1_isUnder_0 ad r F_X0_parentOf) hI (plainFor_of_name (by decide +kernel)) (fun X res hl hD C E => S_X1_isUnder_0 C E (k_cvOf hl hD h_X0_parentOf)) (fun As M r hF => by
    unfold sp_III at hF
    split at hF
    · exact ⟨Nat.le_of_ble_eq_true rfl, _, k_inL rfl, hp _ _ _ M _ hF⟩
    · cases hF)
theorem con_X1_getsPiece {l : Launch} {ad : Nat → Nat} {D : va_G} {cI cL : ClassId} {F_X0_parentOf F_X0_value : Sp} (hI : k_I ad) (h_X0_parentOf : Co_X0_parentOf l ad D cI cL F_X0_parentOf) (h_X0_value : Co_X0_value l ad D cI cL F_X0_value) {f : Int32 → Int32 → Mm → Option Rs} (hp : ∀ (x0 : Int32) (x1 : Int32) (M : Mm) (r : Rs), f x0 x1 M = some r → T_X1_getsPiece_0 ad r F_X0_parentOf F_X0_value [some (.ref (ad 1)), some (.int x0), some (.int x1), none, none] [] M) : Co_X1_getsPiece l ad D cI cL (sp_II f) := by
  exact k_con (tree := fun r => T_X1_getsPiece_0 ad r F_X0_parentOf F_X0_value) hI (plainFor_of_name (by decide +kernel)) (fun X res hl hD C E => S_X1_getsPiece_0 C E (k_cvOf hl hD h_X0_parentOf) (k_cvOf hl hD h_X0_value)) (fun As M r hF => by
    unfold sp_II at hF
    split at hF
    · exact ⟨Nat.le_of_ble_eq_true rfl, _, k_inL rfl, hp _ _ M _ hF⟩
    · cases hF)
theorem con_X1_piecesOf {l : Launch} {ad : Nat → Nat} {D : va_G} {cI cL : ClassId} {F_X1_getsPiece : Sp} (hI : k_I ad) (h_X1_getsPiece : Co_X1_getsPiece l ad D cI cL F_X1_getsPiece) {f : Int32 → Mm → Option Rs} (hp : ∀ (x0 : Int32) (M : Mm) (r : Rs), f x0 M = some r → T_X1_piecesOf_0 ad r F_X1_getsPiece [some (.ref (ad 1)), some (.int x0), none, none] [] M) : Co_X1_piecesOf l ad D cI cL (sp_I f) := by
  exact k_con (tree := fun r => T_X1_piecesOf_0 ad r F_X1_getsPiece) hI (plainFor_of_name (by decide +kernel)) (fun X res hl hD C E => S_X1_piecesOf_0 C E (k_cvOf hl hD h_X1_getsPiece)) (fun As M r hF => by
    unfold sp_I at hF
    split at hF
    · exact ⟨Nat.le_of_ble_eq_true rfl, _, k_inL rfl, hp _ M _ hF⟩
    · cases hF)
theorem con_X1_childrenAt {l : Launch} {ad : Nat → Nat} {D : va_G} {cI cL : ClassId} {F_X0_parentOf : Sp} (hI : k_I ad) (h_X0_parentOf : Co_X0_parentOf l ad D cI cL F_X0_parentOf) {f : Int32 → Int32 → Mm → Option Rs} (hp : ∀ (x0 : Int32) (x1 : Int32) (M : Mm) (r : Rs), f x0 x1 M = some r → T_X1_childrenAt_0 ad r F_X0_parentOf [some (.ref (ad 1)), some (.int x0), some (.int x1), none, none] [] M) : Co_X1_childrenAt l ad D cI cL (sp_II f) := by
  exact k_con (tree := fun r => T_X1_childrenAt_0 ad r F_X0_parentOf) hI (plainFor_of_name (by decide +kernel)) (fun X res hl hD C E => S_X1_childrenAt_0 C E (k_cvOf hl hD h_X0_parentOf)) (fun As M r hF => by
    unfold sp_II at hF
    split at hF
    · exact ⟨Nat.le_of_ble_eq_true rfl, _, k_inL rfl, hp _ _ M _ hF⟩
    · cases hF)
theorem con_X1_childAt {l : Launch} {ad : Nat → Nat} {D : va_G} {cI cL : ClassId} {F_X0_parentOf : Sp} (hI : k_I ad) (h_X0_parentOf : Co_X0_parentOf l ad D cI cL F_X0_parentOf) {f : Int32 → Int32 → Int32 → Mm → Option Rs} (hp : ∀ (x0 : Int32) (x1 : Int32) (x2 : Int32) (M : Mm) (r : Rs), f x0 x1 x2 M = some r → T_X1_childAt_0 ad r F_X0_parentOf [some (.ref (ad 1)), some (.int x0), some (.int x1), some (.int x2), none, none] [] M) : Co_X1_childAt l ad D cI cL (sp_III f) := by
  exact k_con (tree := fun r => T_X1_childAt_0 ad r F_X0_parentOf) hI (plainFor_of_name (by decide +kernel)) (fun X res hl hD C E => S_X1_childAt_0 C E (k_cvOf hl hD h_X0_parentOf)) (fun As M r hF => by
    unfold sp_III at hF
    split at hF
    · exact ⟨Nat.le_of_ble_eq_true rfl, _, k_inL rfl, hp _ _ _ M _ hF⟩
    · cases hF)
theorem con_X1_subtreeSize {l : Launch} {ad : Nat → Nat} {D : va_G} {cI cL : ClassId} {F_X1_isUnder : Sp} (hI : k_I ad) (h_X1_isUnder : Co_X1_isUnder l ad D cI cL F_X1_isUnder) {f : Int32 → Int32 → Mm → Option Rs} (hp : ∀ (x0 : Int32) (x1 : Int32) (M : Mm) (r : Rs), f x0 x1 M = some r → T_X1_subtreeSize_0 ad r F_X1_isUnder [some (.ref (ad 1)), some (.int x0), some (.int x1), none, none] [] M) : Co_X1_subtreeSize l ad D cI cL (sp_II f) := by
  exact k_con (tree := fun r => T_X1_subtreeSize_0 ad r F_X1_isUnder) hI (plainFor_of_name (by decide +kernel)) (fun X res hl hD C E => S_X1_subtreeSize_0 C E (k_cvOf hl hD h_X1_isUnder)) (fun As M r hF => by
    unfold sp_II at hF
    split at hF
    · exact ⟨Nat.le_of_ble_eq_true rfl, _, k_inL rfl, hp _ _ M _ hF⟩
    · cases hF)
theorem con_X1_canBeInner {l : Launch} {ad : Nat → Nat} {D : va_G} {cI cL : ClassId} {F_X0_value : Sp} (hI : k_I ad) (h_X0_value : Co_X0_value l ad D cI cL F_X0_value) {f : Int32 → Int32 → Mm → Option Rs} (hp : ∀ (x0 : Int32) (x1 : Int32) (M : Mm) (r : Rs), f x0 x1 M = some r → T_X1_canBeInner_0 ad r F_X0_value [some (.ref (ad 1)), some (.int x0), some (.int x1)] [] M) : Co_X1_canBeInner l ad D cI cL (sp_II f) := by
  exact k_con (tree := fun r => T_X1_canBeInner_0 ad r F_X0_value) hI (plainFor_of_name (by decide +kernel)) (fun X res hl hD C E => S_X1_canBeInner_0 C E (k_cvOf hl hD h_X0_value)) (fun As M r hF => by
    unfold sp_II at hF
    split at hF
    · exact ⟨Nat.le_of_ble_eq_true rfl, _, k_inL rfl, hp _ _ M _ hF⟩
    · cases hF)
theorem con_X1_isRoomAt {l : Launch} {ad : Nat → Nat} {D : va_G} {cI cL : ClassId} {F_X0_figure F_X0_value F_X1_canBeInner F_X1_childrenAt F_X1_depthOf : Sp} (hI : k_I ad) (h_X0_figure : Co_X0_figure l ad D cI cL F_X0_figure) (h_X0_value : Co_X0_value l ad D cI cL F_X0_value) (h_X1_canBeInner : Co_X1_canBeInner l ad D cI cL F_X1_canBeInner) (h_X1_childrenAt : Co_X1_childrenAt l ad D cI cL F_X1_childrenAt) (h_X1_depthOf : Co_X1_depthOf l ad D cI cL F_X1_depthOf) {f : Int32 → Int32 → Mm → Option Rs} (hp : ∀ (x0 : Int32) (x1 : Int32) (M : Mm) (r : Rs), f x0 x1 M = some r → T_X1_isRoomAt_0 ad r F_X0_figure F_X0_value F_X1_canBeInner F_X1_childrenAt F_X1_depthOf [some (.ref (ad 1)), some (.int x0), some (.int x1)] [] M) : Co_X1_isRoomAt l ad D cI cL (sp_II f) := by
  exact k_con (tree := fun r => T_X1_isRoomAt_0 ad r F_X0_figure F_X0_value F_X1_canBeInner F_X1_childrenAt F_X1_depthOf) hI (plainFor_of_name (by decide +kernel)) (fun X res hl hD C E => S_X1_isRoomAt_0 C E (k_cvOf hl hD h_X0_figure) (k_cvOf hl hD h_X0_value) (k_cvOf hl hD h_X1_canBeInner) (k_cvOf hl hD h_X1_childrenAt) (k_cvOf hl hD h_X1_depthOf)) (fun As M r hF => by
    unfold sp_II at hF
    split at hF
    · exact ⟨Nat.le_of_ble_eq_true rfl, _, k_inL rfl, hp _ _ M _ hF⟩
    · cases hF)
theorem con_X1_isBefore {l : Launch} {ad : Nat → Nat} {D : va_G} {cI cL : ClassId} {F_X0_value : Sp} (hI : k_I ad) (h_X0_value : Co_X0_value l ad D cI cL F_X0_value) {f : Int32 → Int32 → Int32 → Mm → Option Rs} (hp : ∀ (x0 : Int32) (x1 : Int32) (x2 : Int32) (M : Mm) (r : Rs), f x0 x1 x2 M = some r → T_X1_isBefore_0 ad r F_X0_value [some (.ref (ad 1)), some (.int x0), some (.int x1), some (.int x2), none, none, none, none] [] M) : Co_X1_isBefore l ad D cI cL (sp_III f) := by
  exact k_con (tree := fun r => T_X1_isBefore_0 ad r F_X0_value) hI (plainFor_of_name (by decide +kernel)) (fun X res hl hD C E => S_X1_isBefore_0 C E (k_cvOf hl hD h_X0_value)) (fun As M r hF => by
    unfold sp_III at hF
    split at hF
    · exact ⟨Nat.le_of_ble_eq_true rfl, _, k_inL rfl, hp _ _ _ M _ hF⟩
    · cases hF)
theorem con_X1_lastChild {l : Launch} {ad : Nat → Nat} {D : va_G} {cI cL : ClassId} {F_X0_parentOf F_X1_isBefore : Sp} (hI : k_I ad) (h_X0_parentOf : Co_X0_parentOf l ad D cI cL F_X0_parentOf) (h_X1_isBefore : Co_X1_isBefore l ad D cI cL F_X1_isBefore) {f : Int32 → Int32 → Mm → Option Rs} (hp : ∀ (x0 : Int32) (x1 : Int32) (M : Mm) (r : Rs), f x0 x1 M = some r → T_X1_lastChild_0 ad r F_X0_parentOf F_X1_isBefore [some (.ref (ad 1)), some (.int x0), some (.int x1), none, none] [] M) : Co_X1_lastChild l ad D cI cL (sp_II f) := by
  exact k_con (tree := fun r => T_X1_lastChild_0 ad r F_X0_parentOf F_X1_isBefore) hI (plainFor_of_name (by decide +kernel)) (fun X res hl hD C E => S_X1_lastChild_0 C E (k_cvOf hl hD h_X0_parentOf) (k_cvOf hl hD h_X1_isBefore)) (fun As M r hF => by
    unfold sp_II at hF
    split at hF
    · exact ⟨Nat.le_of_ble_eq_true rfl, _, k_inL rfl, hp _ _ M _ hF⟩
    · cases hF)
theorem con_X1_firstInnerChild {l : Launch} {ad : Nat → Nat} {D : va_G} {cI cL : ClassId} {F_X0_parentOf F_X1_canBeInner F_X1_isBefore : Sp} (hI : k_I ad) (h_X0_parentOf : Co_X0_parentOf l ad D cI cL F_X0_parentOf) (h_X1_canBeInner : Co_X1_canBeInner l ad D cI cL F_X1_canBeInner) (h_X1_isBefore : Co_X1_isBefore l ad D cI cL F_X1_isBefore) {f : Int32 → Int32 → Mm → Option Rs} (hp : ∀ (x0 : Int32) (x1 : Int32) (M : Mm) (r : Rs), f x0 x1 M = some r → T_X1_firstInnerChild_0 ad r F_X0_parentOf F_X1_canBeInner F_X1_isBefore [some (.ref (ad 1)), some (.int x0), some (.int x1), none, none] [] M) : Co_X1_firstInnerChild l ad D cI cL (sp_II f) := by
  exact k_con (tree := fun r => T_X1_firstInnerChild_0 ad r F_X0_parentOf F_X1_canBeInner F_X1_isBefore) hI (plainFor_of_name (by decide +kernel)) (fun X res hl hD C E => S_X1_firstInnerChild_0 C E (k_cvOf hl hD h_X0_parentOf) (k_cvOf hl hD h_X1_canBeInner) (k_cvOf hl hD h_X1_isBefore)) (fun As M r hF => by
    unfold sp_II at hF
    split at hF
    · exact ⟨Nat.le_of_ble_eq_true rfl, _, k_inL rfl, hp _ _ M _ hF⟩
    · cases hF)
theorem con_X1_spareMember {l : Launch} {ad : Nat → Nat} {D : va_G} {cI cL : ClassId} {F_X1_depthOf F_X1_isRoomAt : Sp} (hI : k_I ad) (h_X1_depthOf : Co_X1_depthOf l ad D cI cL F_X1_depthOf) (h_X1_isRoomAt : Co_X1_isRoomAt l ad D cI cL F_X1_isRoomAt) {f : Int32 → Mm → Option Rs} (hp : ∀ (x0 : Int32) (M : Mm) (r : Rs), f x0 M = some r → T_X1_spareMember_0 ad r F_X1_depthOf F_X1_isRoomAt [some (.ref (ad 1)), some (.int x0), none, none, none, none] [] M) : Co_X1_spareMember l ad D cI cL (sp_I f) := by
  exact k_con (tree := fun r => T_X1_spareMember_0 ad r F_X1_depthOf F_X1_isRoomAt) hI (plainFor_of_name (by decide +kernel)) (fun X res hl hD C E => S_X1_spareMember_0 C E (k_cvOf hl hD h_X1_depthOf) (k_cvOf hl hD h_X1_isRoomAt)) (fun As M r hF => by
    unfold sp_I at hF
    split at hF
    · exact ⟨Nat.le_of_ble_eq_true rfl, _, k_inL rfl, hp _ M _ hF⟩
    · cases hF)
theorem con_X1_takePlace {l : Launch} {ad : Nat → Nat} {D : va_G} {cI cL : ClassId} {F_X0_addToFigure F_X0_moveTo F_X0_parentOf : Sp} (hI : k_I ad) (h_X0_addToFigure : Co_X0_addToFigure l ad D cI cL F_X0_addToFigure) (h_X0_moveTo : Co_X0_moveTo l ad D cI cL F_X0_moveTo) (h_X0_parentOf : Co_X0_parentOf l ad D cI cL F_X0_parentOf) {f : Int32 → Int32 → Int32 → Mm → Option Rs} (hp : ∀ (x0 : Int32) (x1 : Int32) (x2 : Int32) (M : Mm) (r : Rs), f x0 x1 x2 M = some r → T_X1_takePlace_0 ad r F_X0_addToFigure F_X0_moveTo F_X0_parentOf [some (.ref (ad 1)), some (.int x0), some (.int x1), some (.int x2), none] [] M) : Co_X1_takePlace l ad D cI cL (sp_III f) := by
  exact k_con (tree := fun r => T_X1_takePlace_0 ad r F_X0_addToFigure F_X0_moveTo F_X0_parentOf) hI (plainFor_of_name (by decide +kernel)) (fun X res hl hD C E => S_X1_takePlace_0 C E (k_cvOf hl hD h_X0_addToFigure) (k_cvOf hl hD h_X0_moveTo) (k_cvOf hl hD h_X0_parentOf)) (fun As M r hF => by
    unfold sp_III at hF
    split at hF
    · exact ⟨Nat.le_of_ble_eq_true rfl, _, k_inL rfl, hp _ _ _ M _ hF⟩
    · cases hF)
theorem con_X1_attachToSpare {l : Launch} {ad : Nat → Nat} {D : va_G} {cI cL : ClassId} {F_X0_addToFigure F_X0_moveTo : Sp} (hI : k_I ad) (h_X0_addToFigure : Co_X0_addToFigure l ad D cI cL F_X0_addToFigure) (h_X0_moveTo : Co_X0_moveTo l ad D cI cL F_X0_moveTo) {f : Int32 → Int32 → Int32 → Mm → Option Rs} (hp : ∀ (x0 : Int32) (x1 : Int32) (x2 : Int32) (M : Mm) (r : Rs), f x0 x1 x2 M = some r → T_X1_attachToSpare_0 ad r F_X0_addToFigure F_X0_moveTo [some (.ref (ad 1)), some (.int x0), some (.int x1), some (.int x2)] [] M) : Co_X1_attachToSpare l ad D cI cL (sp_III f) := by
  exact k_con (tree := fun r => T_X1_attachToSpare_0 ad r F_X0_addToFigure F_X0_moveTo) hI (plainFor_of_name (by decide +kernel)) (fun X res hl hD C E => S_X1_attachToSpare_0 C E (k_cvOf hl hD h_X0_addToFigure) (k_cvOf hl hD h_X0_moveTo)) (fun As M r hF => by
    unfold sp_III at hF
    split at hF
    · exact ⟨Nat.le_of_ble_eq_true rfl, _, k_inL rfl, hp _ _ _ M _ hF⟩
    · cases hF)
theorem con_X1_attach {l : Launch} {ad : Nat → Nat} {D : va_G} {cI cL : ClassId} {F_X0_moveTo F_X1_attachToSpare F_X1_canBeInner F_X1_firstInnerChild F_X1_isBefore F_X1_isRoomAt F_X1_lastChild F_X1_spareMember F_X1_takePlace : Sp} (hI : k_I ad) (h_X0_moveTo : Co_X0_moveTo l ad D cI cL F_X0_moveTo) (h_X1_attachToSpare : Co_X1_attachToSpare l ad D cI cL F_X1_attachToSpare) (h_X1_canBeInner : Co_X1_canBeInner l ad D cI cL F_X1_canBeInner) (h_X1_firstInnerChild : Co_X1_firstInnerChild l ad D cI cL F_X1_firstInnerChild) (h_X1_isBefore : Co_X1_isBefore l ad D cI cL F_X1_isBefore) (h_X1_isRoomAt : Co_X1_isRoomAt l ad D cI cL F_X1_isRoomAt) (h_X1_lastChild : Co_X1_lastChild l ad D cI cL F_X1_lastChild) (h_X1_spareMember : Co_X1_spareMember l ad D cI cL F_X1_spareMember) (h_X1_takePlace : Co_X1_takePlace l ad D cI cL F_X1_takePlace) {f : Int32 → Int32 → Mm → Option Rs} (hp : ∀ (x0 : Int32) (x1 : Int32) (M : Mm) (r : Rs), f x0 x1 M = some r → T_X1_attach_0 ad r F_X0_moveTo F_X1_attachToSpare F_X1_canBeInner F_X1_firstInnerChild F_X1_isBefore F_X1_isRoomAt F_X1_lastChild F_X1_spareMember F_X1_takePlace [some (.ref (ad 1)), some (.int x0), some (.int x1), none, none, none, none] [] M) : Co_X1_attach l ad D cI cL (sp_II f) := by
  exact k_con (tree := fun r => T_X1_attach_0 ad r F_X0_moveTo F_X1_attachToSpare F_X1_canBeInner F_X1_firstInnerChild F_X1_isBefore F_X1_isRoomAt F_X1_lastChild F_X1_spareMember F_X1_takePlace) hI (plainFor_of_name (by decide +kernel)) (fun X res hl hD C E => S_X1_attach_0 C E (k_cvOf hl hD h_X0_moveTo) (k_cvOf hl hD h_X1_attachToSpare) (k_cvOf hl hD h_X1_canBeInner) (k_cvOf hl hD h_X1_firstInnerChild) (k_cvOf hl hD h_X1_isBefore) (k_cvOf hl hD h_X1_isRoomAt) (k_cvOf hl hD h_X1_lastChild) (k_cvOf hl hD h_X1_spareMember) (k_cvOf hl hD h_X1_takePlace)) (fun As M r hF => by
    unfold sp_II at hF
    split at hF
    · exact ⟨Nat.le_of_ble_eq_true rfl, _, k_inL rfl, hp _ _ M _ hF⟩
    · cases hF)
theorem con_X1_isOrphan {l : Launch} {ad : Nat → Nat} {D : va_G} {cI cL : ClassId} {F_X0_parentOf F_X0_value : Sp} (hI : k_I ad) (h_X0_parentOf : Co_X0_parentOf l ad D cI cL F_X0_parentOf) (h_X0_value : Co_X0_value l ad D cI cL F_X0_value) {f : Int32 → Int32 → Mm → Option Rs} (hp : ∀ (x0 : Int32) (x1 : Int32) (M : Mm) (r : Rs), f x0 x1 M = some r → T_X1_isOrphan_0 ad r F_X0_parentOf F_X0_value [some (.ref (ad 1)), some (.int x0), some (.int x1)] [] M) : Co_X1_isOrphan l ad D cI cL (sp_II f) := by
  exact k_con (tree := fun r => T_X1_isOrphan_0 ad r F_X0_parentOf F_X0_value) hI (plainFor_of_name (by decide +kernel)) (fun X res hl hD C E => S_X1_isOrphan_0 C E (k_cvOf hl hD h_X0_parentOf) (k_cvOf hl hD h_X0_value)) (fun As M r hF => by
    unfold sp_II at hF
    split at hF
    · exact ⟨Nat.le_of_ble_eq_true rfl, _, k_inL rfl, hp _ _ M _ hF⟩
    · cases hF)
theorem con_X1_attachOrphans {l : Launch} {ad : Nat → Nat} {D : va_G} {cI cL : ClassId} {F_X1_attach F_X1_isOrphan : Sp} (hI : k_I ad) (h_X1_attach : Co_X1_attach l ad D cI cL F_X1_attach) (h_X1_isOrphan : Co_X1_isOrphan l ad D cI cL F_X1_isOrphan) {f : Mm → Option Rs} (hp : ∀ (M : Mm) (r : Rs), f M = some r → T_X1_attachOrphans_0 ad r F_X1_attach F_X1_isOrphan [some (.ref (ad 1)), none, none] [] M) : Co_X1_attachOrphans l ad D cI cL (sp_V f) := by
  exact k_con (tree := fun r => T_X1_attachOrphans_0 ad r F_X1_attach F_X1_isOrphan) hI (plainFor_of_name (by decide +kernel)) (fun X res hl hD C E => S_X1_attachOrphans_0 C E (k_cvOf hl hD h_X1_attach) (k_cvOf hl hD h_X1_isOrphan)) (fun As M r hF => by
    unfold sp_V at hF
    split at hF
    · exact ⟨Nat.le_of_ble_eq_true rfl, _, k_inL rfl, hp M _ hF⟩
    · cases hF)
theorem con_X1_cutChildren {l : Launch} {ad : Nat → Nat} {D : va_G} {cI cL : ClassId} {F_X0_moveTo F_X1_childrenAt F_X1_lastChild : Sp} (hI : k_I ad) (h_X0_moveTo : Co_X0_moveTo l ad D cI cL F_X0_moveTo) (h_X1_childrenAt : Co_X1_childrenAt l ad D cI cL F_X1_childrenAt) (h_X1_lastChild : Co_X1_lastChild l ad D cI cL F_X1_lastChild) {f : Int32 → Int32 → Int32 → Mm → Option Rs} (hp : ∀ (x0 : Int32) (x1 : Int32) (x2 : Int32) (M : Mm) (r : Rs), f x0 x1 x2 M = some r → T_X1_cutChildren_0 ad r F_X0_moveTo F_X1_childrenAt F_X1_lastChild [some (.ref (ad 1)), some (.int x0), some (.int x1), some (.int x2), none] [] M) : Co_X1_cutChildren l ad D cI cL (sp_III f) := by
  exact k_con (tree := fun r => T_X1_cutChildren_0 ad r F_X0_moveTo F_X1_childrenAt F_X1_lastChild) hI (plainFor_of_name (by decide +kernel)) (fun X res hl hD C E => S_X1_cutChildren_0 C E (k_cvOf hl hD h_X0_moveTo) (k_cvOf hl hD h_X1_childrenAt) (k_cvOf hl hD h_X1_lastChild)) (fun As M r hF => by
    unfold sp_III at hF
    split at hF
    · exact ⟨Nat.le_of_ble_eq_true rfl, _, k_inL rfl, hp _ _ _ M _ hF⟩
    · cases hF)
theorem con_X1_takeIn {l : Launch} {ad : Nat → Nat} {D : va_G} {cI cL : ClassId} {F_X0_addToFigure F_X0_setValue : Sp} (hI : k_I ad) (h_X0_addToFigure : Co_X0_addToFigure l ad D cI cL F_X0_addToFigure) (h_X0_setValue : Co_X0_setValue l ad D cI cL F_X0_setValue) {f : Int32 → Int32 → Int32 → Mm → Option Rs} (hp : ∀ (x0 : Int32) (x1 : Int32) (x2 : Int32) (M : Mm) (r : Rs), f x0 x1 x2 M = some r → T_X1_takeIn_0 ad r F_X0_addToFigure F_X0_setValue [some (.ref (ad 1)), some (.int x0), some (.int x1), some (.int x2)] [] M) : Co_X1_takeIn l ad D cI cL (sp_III f) := by
  exact k_con (tree := fun r => T_X1_takeIn_0 ad r F_X0_addToFigure F_X0_setValue) hI (plainFor_of_name (by decide +kernel)) (fun X res hl hD C E => S_X1_takeIn_0 C E (k_cvOf hl hD h_X0_addToFigure) (k_cvOf hl hD h_X0_setValue)) (fun As M r hF => by
    unfold sp_III at hF
    split at hF
    · exact ⟨Nat.le_of_ble_eq_true rfl, _, k_inL rfl, hp _ _ _ M _ hF⟩
    · cases hF)
theorem con_X1_takeOut {l : Launch} {ad : Nat → Nat} {D : va_G} {cI cL : ClassId} {F_X0_addToFigure F_X0_moveTo F_X0_setValue F_X1_cutChildren : Sp} (hI : k_I ad) (h_X0_addToFigure : Co_X0_addToFigure l ad D cI cL F_X0_addToFigure) (h_X0_moveTo : Co_X0_moveTo l ad D cI cL F_X0_moveTo) (h_X0_setValue : Co_X0_setValue l ad D cI cL F_X0_setValue) (h_X1_cutChildren : Co_X1_cutChildren l ad D cI cL F_X1_cutChildren) {f : Int32 → Mm → Option Rs} (hp : ∀ (x0 : Int32) (M : Mm) (r : Rs), f x0 M = some r → T_X1_takeOut_0 ad r F_X0_addToFigure F_X0_moveTo F_X0_setValue F_X1_cutChildren [some (.ref (ad 1)), some (.int x0), none] [] M) : Co_X1_takeOut l ad D cI cL (sp_I f) := by
  exact k_con (tree := fun r => T_X1_takeOut_0 ad r F_X0_addToFigure F_X0_moveTo F_X0_setValue F_X1_cutChildren) hI (plainFor_of_name (by decide +kernel)) (fun X res hl hD C E => S_X1_takeOut_0 C E (k_cvOf hl hD h_X0_addToFigure) (k_cvOf hl hD h_X0_moveTo) (k_cvOf hl hD h_X0_setValue) (k_cvOf hl hD h_X1_cutChildren)) (fun As M r hF => by
    unfold sp_I at hF
    split at hF
    · exact ⟨Nat.le_of_ble_eq_true rfl, _, k_inL rfl, hp _ M _ hF⟩
    · cases hF)
theorem con_X1_connected {l : Launch} {ad : Nat → Nat} {D : va_G} {cI cL : ClassId} {F_X1_depthOf : Sp} (hI : k_I ad) (h_X1_depthOf : Co_X1_depthOf l ad D cI cL F_X1_depthOf) {f : Int32 → Mm → Option Rs} (hp : ∀ (x0 : Int32) (M : Mm) (r : Rs), f x0 M = some r → T_X1_connected_0 ad r F_X1_depthOf [some (.ref (ad 1)), some (.int x0), none, none] [] M) : Co_X1_connected l ad D cI cL (sp_I f) := by
  exact k_con (tree := fun r => T_X1_connected_0 ad r F_X1_depthOf) hI (plainFor_of_name (by decide +kernel)) (fun X res hl hD C E => S_X1_connected_0 C E (k_cvOf hl hD h_X1_depthOf)) (fun As M r hF => by
    unfold sp_I at hF
    split at hF
    · exact ⟨Nat.le_of_ble_eq_true rfl, _, k_inL rfl, hp _ M _ hF⟩
    · cases hF)
theorem con_X1_orphans {l : Launch} {ad : Nat → Nat} {D : va_G} {cI cL : ClassId} {F_X1_isOrphan : Sp} (hI : k_I ad) (h_X1_isOrphan : Co_X1_isOrphan l ad D cI cL F_X1_isOrphan) {f : Int32 → Mm → Option Rs} (hp : ∀ (x0 : Int32) (M : Mm) (r : Rs), f x0 M = some r → T_X1_orphans_0 ad r F_X1_isOrphan [some (.ref (ad 1)), some (.int x0), none, none] [] M) : Co_X1_orphans l ad D cI cL (sp_I f) := by
  exact k_con (tree := fun r => T_X1_orphans_0 ad r F_X1_isOrphan) hI (plainFor_of_name (by decide +kernel)) (fun X res hl hD C E => S_X1_orphans_0 C E (k_cvOf hl hD h_X1_isOrphan)) (fun As M r hF => by
    unfold sp_I at hF
    split at hF
    · exact ⟨Nat.le_of_ble_eq_true rfl, _, k_inL rfl, hp _ M _ hF⟩
    · cases hF)
theorem con_X1_greatestDepth {l : Launch} {ad : Nat → Nat} {D : va_G} {cI cL : ClassId} {F_X1_depthOf : Sp} (hI : k_I ad) (h_X1_depthOf : Co_X1_depthOf l ad D cI cL F_X1_depthOf) {f : Int32 → Mm → Option Rs} (hp : ∀ (x0 : Int32) (M : Mm) (r : Rs), f x0 M = some r → T_X1_greatestDepth_0 ad r F_X1_depthOf [some (.ref (ad 1)), some (.int x0), none, none] [] M) : Co_X1_greatestDepth l ad D cI cL (sp_I f) := by
  exact k_con (tree := fun r => T_X1_greatestDepth_0 ad r F_X1_depthOf) hI (plainFor_of_name (by decide +kernel)) (fun X res hl hD C E => S_X1_greatestDepth_0 C E (k_cvOf hl hD h_X1_depthOf)) (fun As M r hF => by
    unfold sp_I at hF
    split at hF
    · exact ⟨Nat.le_of_ble_eq_true rfl, _, k_inL rfl, hp _ M _ hF⟩
    · cases hF)
theorem con_X1_withRoom {l : Launch} {ad : Nat → Nat} {D : va_G} {cI cL : ClassId} {F_X1_isRoomAt : Sp} (hI : k_I ad) (h_X1_isRoomAt : Co_X1_isRoomAt l ad D cI cL F_X1_isRoomAt) {f : Int32 → Mm → Option Rs} (hp : ∀ (x0 : Int32) (M : Mm) (r : Rs), f x0 M = some r → T_X1_withRoom_0 ad r F_X1_isRoomAt [some (.ref (ad 1)), some (.int x0), none, none] [] M) : Co_X1_withRoom l ad D cI cL (sp_I f) := by
  exact k_con (tree := fun r => T_X1_withRoom_0 ad r F_X1_isRoomAt) hI (plainFor_of_name (by decide +kernel)) (fun X res hl hD C E => S_X1_withRoom_0 C E (k_cvOf hl hD h_X1_isRoomAt)) (fun As M r hF => by
    unfold sp_I at hF
    split at hF
    · exact ⟨Nat.le_of_ble_eq_true rfl, _, k_inL rfl, hp _ M _ hF⟩
    · cases hF)
theorem con_X1_withChildren {l : Launch} {ad : Nat → Nat} {D : va_G} {cI cL : ClassId} {F_X0_value : Sp} (hI : k_I ad) (h_X0_value : Co_X0_value l ad D cI cL F_X0_value) {f : Int32 → Mm → Option Rs} (hp : ∀ (x0 : Int32) (M : Mm) (r : Rs), f x0 M = some r → T_X1_withChildren_0 ad r F_X0_value [some (.ref (ad 1)), some (.int x0), none, none] [] M) : Co_X1_withChildren l ad D cI cL (sp_I f) := by
  exact k_con (tree := fun r => T_X1_withChildren_0 ad r F_X0_value) hI (plainFor_of_name (by decide +kernel)) (fun X res hl hD C E => S_X1_withChildren_0 C E (k_cvOf hl hD h_X0_value)) (fun As M r hF => by
    unfold sp_I at hF
    split at hF
    · exact ⟨Nat.le_of_ble_eq_true rfl, _, k_inL rfl, hp _ M _ hF⟩
    · cases hF)
theorem con_X2_size {l : Launch} {ad : Nat → Nat} {D : va_G} {cI cL : ClassId} (hI : k_I ad) {f : Mm → Option Rs} (hp : ∀ (M : Mm) (r : Rs), f M = some r → T_X2_size_0 ad r [some (.ref (ad 3))] [] M) : Co_X2_size l ad D cI cL (sp_V f) := by
  exact k_con (tree := fun r => T_X2_size_0 ad r) hI (plainFor_of_name (by decide +kernel)) (fun X res hl hD C E => S_X2_size_0 C E) (fun As M r hF => by
    unfold sp_V at hF
    split at hF
    · exact ⟨Nat.le_of_ble_eq_true rfl, _, k_inL rfl, hp M _ hF⟩
    · cases hF)
theorem con_J9_floorMod_7cf53 {l : Launch} {ad : Nat → Nat} {D : va_G} {cI cL : ClassId} (hI : k_I ad) {f : Int32 → Int32 → Mm → Option Rs} (hp : ∀ (x0 : Int32) (x1 : Int32) (M : Mm) (r : Rs), f x0 x1 M = some r → T_J9_floorMod_7cf53_0 ad r [some (.int x0), some (.int x1), none] [] M) : Co_J9_floorMod_7cf53 l ad D cI cL (sp_II f) := by
  exact k_con (tree := fun r => T_J9_floorMod_7cf53_0 ad r) hI (by decide +kernel) (fun X res hl hD C E => S_J9_floorMod_7cf53_0 C E) (fun As M r hF => by
    unfold sp_II at hF
    split at hF
    · exact ⟨Nat.le_of_ble_eq_true rfl, _, k_inL rfl, hp _ _ M _ hF⟩
    · cases hF)
theorem con_X2_push {l : Launch} {ad : Nat → Nat} {D : va_G} {cI cL : ClassId} {F_J9_floorMod_7cf53 F_X0_copyTo : Sp} (hI : k_I ad) (h_J9_floorMod_7cf53 : Co_J9_floorMod_7cf53 l ad D cI cL F_J9_floorMod_7cf53) (h_X0_copyTo : Co_X0_copyTo l ad D cI cL F_X0_copyTo) {f : Mm → Option Rs} (hp : ∀ (M : Mm) (r : Rs), f M = some r → T_X2_push_0 ad r F_J9_floorMod_7cf53 F_X0_copyTo [some (.ref (ad 3)), some (.ref (ad 2))] [] M) : Co_X2_push l ad D cI cL (sp_R2 ad f) := by
  exact k_con (tree := fun r => T_X2_push_0 ad r F_J9_floorMod_7cf53 F_X0_copyTo) hI (plainFor_of_name (by decide +kernel)) (fun X res hl hD C E => S_X2_push_0 C E (k_cvOf hl hD h_J9_floorMod_7cf53) (k_cvOf hl hD h_X0_copyTo)) (fun As M r hF => by
    unfold sp_R2 at hF
    split at hF
    · split at hF
      · next hc =>
        obtain rfl := hc
        exact ⟨Nat.le_of_ble_eq_true rfl, _, k_inL rfl, hp M _ hF⟩
      · cases hF
    · cases hF)
theorem con_X2_popInto {l : Launch} {ad : Nat → Nat} {D : va_G} {cI cL : ClassId} {F_J9_floorMod_7cf53 F_X0_copyFrom : Sp} (hI : k_I ad) (h_J9_floorMod_7cf53 : Co_J9_floorMod_7cf53 l ad D cI cL F_J9_floorMod_7cf53) (h_X0_copyFrom : Co_X0_copyFrom l ad D cI cL F_X0_copyFrom) {f : Mm → Option Rs} (hp : ∀ (M : Mm) (r : Rs), f M = some r → T_X2_popInto_0 ad r F_J9_floorMod_7cf53 F_X0_copyFrom [some (.ref (ad 3)), some (.ref (ad 2))] [] M) : Co_X2_popInto l ad D cI cL (sp_R2 ad f) := by
  exact k_con (tree := fun r => T_X2_popInto_0 ad r F_J9_floorMod_7cf53 F_X0_copyFrom) hI (plainFor_of_name (by decide +kernel)) (fun X res hl hD C E => S_X2_popInto_0 C E (k_cvOf hl hD h_J9_floorMod_7cf53) (k_cvOf hl hD h_X0_copyFrom)) (fun As M r hF => by
    unfold sp_R2 at hF
    split at hF
    · split at hF
      · next hc =>
        obtain rfl := hc
        exact ⟨Nat.le_of_ble_eq_true rfl, _, k_inL rfl, hp M _ hF⟩
      · cases hF
    · cases hF)
theorem con_X3_requireMember {l : Launch} {ad : Nat → Nat} {D : va_G} {cI cL : ClassId} (hI : k_I ad) (hf : l.stackTraces = false) {f : Int32 → Mm → Option Rs} (hp : ∀ (x0 : Int32) (M : Mm) (r : Rs), f x0 M = some r → T_X3_requireMember_0 ad r [some (.int x0)] [] M) : Co_X3_requireMember l ad D cI cL (sp_I f) ∧ Cx_X3_requireMember l ad D cI cL (sp_I f) := by
  refine ⟨k_con2 (tree := fun r => T_X3_requireMember_0 ad r) hI (by decide +kernel) (fun X res hl hD C E T => S_X3_requireMember_0 C E T) (fun As M r hF => by
    unfold sp_I at hF
    split at hF
    · exact ⟨Nat.le_of_ble_eq_true rfl, _, k_inL rfl, hp _ M _ hF⟩
    · cases hF), k_thr (tree := fun r => T_X3_requireMember_0 ad r) hI hf (by decide +kernel) (fun X res hl hD C E T => S_X3_requireMember_0 C E T) (fun As M r hF => by
    unfold sp_I at hF
    split at hF
    · exact ⟨Nat.le_of_ble_eq_true rfl, _, k_inL rfl, hp _ M _ hF⟩
    · cases hF)⟩
theorem con_X3_requireRange {l : Launch} {ad : Nat → Nat} {D : va_G} {cI cL : ClassId} (hI : k_I ad) (hf : l.stackTraces = false) {f : Int32 → Int32 → Int32 → Mm → Option Rs} (hp : ∀ (x0 : Int32) (x1 : Int32) (x2 : Int32) (M : Mm) (r : Rs), f x0 x1 x2 M = some r → T_X3_requireRange_0 ad r [some (.int x0), some (.int x1), some (.int x2)] [] M) : Co_X3_requireRange l ad D cI cL (sp_III f) ∧ Cx_X3_requireRange l ad D cI cL (sp_III f) := by
  refine ⟨k_con2 (tree := fun r => T_X3_requireRange_0 ad r) hI (by decide +kernel) (fun X res hl hD C E T => S_X3_requireRange_0 C E T) (fun As M r hF => by
    unfold sp_III at hF
    split at hF
    · exact ⟨Nat.le_of_ble_eq_true rfl, _, k_inL rfl, hp _ _ _ M _ hF⟩
    · cases hF), k_thr (tree := fun r => T_X3_requireRange_0 ad r) hI hf (by decide +kernel) (fun X res hl hD C E T => S_X3_requireRange_0 C E T) (fun As M r hF => by
    unfold sp_III at hF
    split at hF
    · exact ⟨Nat.le_of_ble_eq_true rfl, _, k_inL rfl, hp _ _ _ M _ hF⟩
    · cases hF)⟩
theorem con_X3_isJoined {l : Launch} {ad : Nat → Nat} {D : va_G} {cI cL : ClassId} {F_X0_value : Sp} (hI : k_I ad) (h_X0_value : Co_X0_value l ad D cI cL F_X0_value) {f : Int32 → Mm → Option Rs} (hp : ∀ (x0 : Int32) (M : Mm) (r : Rs), f x0 M = some r → T_X3_isJoined_0 ad r F_X0_value [some (.ref (ad 0)), some (.int x0)] [] M) : Co_X3_isJoined l ad D cI cL (sp_I f) := by
  exact k_con (tree := fun r => T_X3_isJoined_0 ad r F_X0_value) hI (plainFor_of_name (by decide +kernel)) (fun X res hl hD C E => S_X3_isJoined_0 C E (k_cvOf hl hD h_X0_value)) (fun As M r hF => by
    unfold sp_I at hF
    split at hF
    · exact ⟨Nat.le_of_ble_eq_true rfl, _, k_inL rfl, hp _ M _ hF⟩
    · cases hF)
theorem con_X3_connectedStripes {l : Launch} {ad : Nat → Nat} {D : va_G} {cI cL : ClassId} {F_X1_depthOf : Sp} (hI : k_I ad) (h_X1_depthOf : Co_X1_depthOf l ad D cI cL F_X1_depthOf) {f : Int32 → Mm → Option Rs} (hp : ∀ (x0 : Int32) (M : Mm) (r : Rs), f x0 M = some r → T_X3_connectedStripes_0 ad r F_X1_depthOf [some (.ref (ad 0)), some (.int x0), none, none] [] M) : Co_X3_connectedStripes l ad D cI cL (sp_I f) := by
  exact k_con (tree := fun r => T_X3_connectedStripes_0 ad r F_X1_depthOf) hI (plainFor_of_name (by decide +kernel)) (fun X res hl hD C E => S_X3_connectedStripes_0 C E (k_cvOf hl hD h_X1_depthOf)) (fun As M r hF => by
    unfold sp_I at hF
    split at hF
    · exact ⟨Nat.le_of_ble_eq_true rfl, _, k_inL rfl, hp _ M _ hF⟩
    · cases hF)
theorem con_X3_join {l : Launch} {ad : Nat → Nat} {D : va_G} {cI cL : ClassId} {F_X1_attachOrphans F_X1_takeIn F_X2_push F_X3_connectedStripes F_X3_isJoined F_X3_requireMember F_X3_requireRange : Sp} (hI : k_I ad) (hf : l.stackTraces = false) (h_X1_attachOrphans : Co_X1_attachOrphans l ad D cI cL F_X1_attachOrphans) (h_X1_takeIn : Co_X1_takeIn l ad D cI cL F_X1_takeIn) (h_X2_push : Co_X2_push l ad D cI cL F_X2_push) (h_X3_connectedStripes : Co_X3_connectedStripes l ad D cI cL F_X3_connectedStripes) (h_X3_isJoined : Co_X3_isJoined l ad D cI cL F_X3_isJoined) (h_X3_requireMember : Co_X3_requireMember l ad D cI cL F_X3_requireMember) (h_X3_requireRange : Co_X3_requireRange l ad D cI cL F_X3_requireRange) (hx_X3_requireMember : Cx_X3_requireMember l ad D cI cL F_X3_requireMember) (hx_X3_requireRange : Cx_X3_requireRange l ad D cI cL F_X3_requireRange) {f : Int32 → Int32 → Int32 → Mm → Option Rs} (hp : ∀ (x0 : Int32) (x1 : Int32) (x2 : Int32) (M : Mm) (r : Rs), f x0 x1 x2 M = some r → T_X3_join_0 ad r F_X1_attachOrphans F_X1_takeIn F_X2_push F_X3_connectedStripes F_X3_isJoined F_X3_requireMember F_X3_requireRange [some (.ref (ad 0)), some (.int x0), some (.int x1), some (.int x2)] [] M) : Co_X3_join l ad D cI cL (sp_III f) ∧ Cx_X3_join l ad D cI cL (sp_III f) := by
  refine ⟨k_con2 (tree := fun r => T_X3_join_0 ad r F_X1_attachOrphans F_X1_takeIn F_X2_push F_X3_connectedStripes F_X3_isJoined F_X3_requireMember F_X3_requireRange) hI (by decide +kernel) (fun X res hl hD C E T => S_X3_join_0 C E T (k_cvOf hl hD h_X1_attachOrphans) (k_cvOf hl hD h_X1_takeIn) (k_cvOf hl hD h_X2_push) (k_cvOf hl hD h_X3_connectedStripes) (k_cvOf hl hD h_X3_isJoined) (k_cvOf hl hD h_X3_requireMember) (k_cvOf hl hD h_X3_requireRange) (k_ctOf hl hD hx_X3_requireMember) (k_ctOf hl hD hx_X3_requireRange)) (fun As M r hF => by
    unfold sp_III at hF
    split at hF
    · exact ⟨Nat.le_of_ble_eq_true rfl, _, k_inL rfl, hp _ _ _ M _ hF⟩
    · cases hF), k_thr (tree := fun r => T_X3_join_0 ad r F_X1_attachOrphans F_X1_takeIn F_X2_push F_X3_connectedStripes F_X3_isJoined F_X3_requireMember F_X3_requireRange) hI hf (by decide +kernel) (fun X res hl hD C E T => S_X3_join_0 C E T (k_cvOf hl hD h_X1_attachOrphans) (k_cvOf hl hD h_X1_takeIn) (k_cvOf hl hD h_X2_push) (k_cvOf hl hD h_X3_connectedStripes) (k_cvOf hl hD h_X3_isJoined) (k_cvOf hl hD h_X3_requireMember) (k_cvOf hl hD h_X3_requireRange) (k_ctOf hl hD hx_X3_requireMember) (k_ctOf hl hD hx_X3_requireRange)) (fun As M r hF => by
    unfold sp_III at hF
    split at hF
    · exact ⟨Nat.le_of_ble_eq_true rfl, _, k_inL rfl, hp _ _ _ M _ hF⟩
    · cases hF)⟩
theorem con_X3_requireJoined {l : Launch} {ad : Nat → Nat} {D : va_G} {cI cL : ClassId} {F_X3_isJoined : Sp} (hI : k_I ad) (hf : l.stackTraces = false) (h_X3_isJoined : Co_X3_isJoined l ad D cI cL F_X3_isJoined) {f : Int32 → Mm → Option Rs} (hp : ∀ (x0 : Int32) (M : Mm) (r : Rs), f x0 M = some r → T_X3_requireJoined_0 ad r F_X3_isJoined [some (.ref (ad 0)), some (.int x0)] [] M) : Co_X3_requireJoined l ad D cI cL (sp_I f) ∧ Cx_X3_requireJoined l ad D cI cL (sp_I f) := by
  refine ⟨k_con2 (tree := fun r => T_X3_requireJoined_0 ad r F_X3_isJoined) hI (by decide +kernel) (fun X res hl hD C E T => S_X3_requireJoined_0 C E T (k_cvOf hl hD h_X3_isJoined)) (fun As M r hF => by
    unfold sp_I at hF
    split at hF
    · exact ⟨Nat.le_of_ble_eq_true rfl, _, k_inL rfl, hp _ M _ hF⟩
    · cases hF), k_thr (tree := fun r => T_X3_requireJoined_0 ad r F_X3_isJoined) hI hf (by decide +kernel) (fun X res hl hD C E T => S_X3_requireJoined_0 C E T (k_cvOf hl hD h_X3_isJoined)) (fun As M r hF => by
    unfold sp_I at hF
    split at hF
    · exact ⟨Nat.le_of_ble_eq_true rfl, _, k_inL rfl, hp _ M _ hF⟩
    · cases hF)⟩
theorem con_X3_leave {l : Launch} {ad : Nat → Nat} {D : va_G} {cI cL : ClassId} {F_X0_value F_X1_attachOrphans F_X1_takeOut F_X2_push F_X3_requireJoined F_X3_requireMember : Sp} (hI : k_I ad) (hf : l.stackTraces = false) (h_X0_value : Co_X0_value l ad D cI cL F_X0_value) (h_X1_attachOrphans : Co_X1_attachOrphans l ad D cI cL F_X1_attachOrphans) (h_X1_takeOut : Co_X1_takeOut l ad D cI cL F_X1_takeOut) (h_X2_push : Co_X2_push l ad D cI cL F_X2_push) (h_X3_requireJoined : Co_X3_requireJoined l ad D cI cL F_X3_requireJoined) (h_X3_requireMember : Co_X3_requireMember l ad D cI cL F_X3_requireMember) (hx_X3_requireJoined : Cx_X3_requireJoined l ad D cI cL F_X3_requireJoined) (hx_X3_requireMember : Cx_X3_requireMember l ad D cI cL F_X3_requireMember) {f : Int32 → Mm → Option Rs} (hp : ∀ (x0 : Int32) (M : Mm) (r : Rs), f x0 M = some r → T_X3_leave_0 ad r F_X0_value F_X1_attachOrphans F_X1_takeOut F_X2_push F_X3_requireJoined F_X3_requireMember [some (.ref (ad 0)), some (.int x0), none] [] M) : Co_X3_leave l ad D cI cL (sp_I f) ∧ Cx_X3_leave l ad D cI cL (sp_I f) := by
  refine ⟨k_con2 (tree := fun r => T_X3_leave_0 ad r F_X0_value F_X1_attachOrphans F_X1_takeOut F_X2_push F_X3_requireJoined F_X3_requireMember) hI (by decide +kernel) (fun X res hl hD C E T => S_X3_leave_0 C E T (k_cvOf hl hD h_X0_value) (k_cvOf hl hD h_X1_attachOrphans) (k_cvOf hl hD h_X1_takeOut) (k_cvOf hl hD h_X2_push) (k_cvOf hl hD h_X3_requireJoined) (k_cvOf hl hD h_X3_requireMember) (k_ctOf hl hD hx_X3_requireJoined) (k_ctOf hl hD hx_X3_requireMember)) (fun As M r hF => by
    unfold sp_I at hF
    split at hF
    · exact ⟨Nat.le_of_ble_eq_true rfl, _, k_inL rfl, hp _ M _ hF⟩
    · cases hF), k_thr (tree := fun r => T_X3_leave_0 ad r F_X0_value F_X1_attachOrphans F_X1_takeOut F_X2_push F_X3_requireJoined F_X3_requireMember) hI hf (by decide +kernel) (fun X res hl hD C E T => S_X3_leave_0 C E T (k_cvOf hl hD h_X0_value) (k_cvOf hl hD h_X1_attachOrphans) (k_cvOf hl hD h_X1_takeOut) (k_cvOf hl hD h_X2_push) (k_cvOf hl hD h_X3_requireJoined) (k_cvOf hl hD h_X3_requireMember) (k_ctOf hl hD hx_X3_requireJoined) (k_ctOf hl hD hx_X3_requireMember)) (fun As M r hF => by
    unfold sp_I at hF
    split at hF
    · exact ⟨Nat.le_of_ble_eq_true rfl, _, k_inL rfl, hp _ M _ hF⟩
    · cases hF)⟩
theorem con_X3_hasFailed {l : Launch} {ad : Nat → Nat} {D : va_G} {cI cL : ClassId} {F_X0_value : Sp} (hI : k_I ad) (h_X0_value : Co_X0_value l ad D cI cL F_X0_value) {f : Int32 → Mm → Option Rs} (hp : ∀ (x0 : Int32) (M : Mm) (r : Rs), f x0 M = some r → T_X3_hasFailed_0 ad r F_X0_value [some (.ref (ad 0)), some (.int x0)] [] M) : Co_X3_hasFailed l ad D cI cL (sp_I f) := by
  exact k_con (tree := fun r => T_X3_hasFailed_0 ad r F_X0_value) hI (plainFor_of_name (by decide +kernel)) (fun X res hl hD C E => S_X3_hasFailed_0 C E (k_cvOf hl hD h_X0_value)) (fun As M r hF => by
    unfold sp_I at hF
    split at hF
    · exact ⟨Nat.le_of_ble_eq_true rfl, _, k_inL rfl, hp _ M _ hF⟩
    · cases hF)
theorem con_X3_fail {l : Launch} {ad : Nat → Nat} {D : va_G} {cI cL : ClassId} {F_X0_figure F_X0_setValue F_X2_push F_X3_hasFailed F_X3_requireJoined F_X3_requireMember : Sp} (hI : k_I ad) (hf : l.stackTraces = false) (h_X0_figure : Co_X0_figure l ad D cI cL F_X0_figure) (h_X0_setValue : Co_X0_setValue l ad D cI cL F_X0_setValue) (h_X2_push : Co_X2_push l ad D cI cL F_X2_push) (h_X3_hasFailed : Co_X3_hasFailed l ad D cI cL F_X3_hasFailed) (h_X3_requireJoined : Co_X3_requireJoined l ad D cI cL F_X3_requireJoined) (h_X3_requireMember : Co_X3_requireMember l ad D cI cL F_X3_requireMember) (hx_X3_requireJoined : Cx_X3_requireJoined l ad D cI cL F_X3_requireJoined) (hx_X3_requireMember : Cx_X3_requireMember l ad D cI cL F_X3_requireMember) {f : Int32 → Mm → Option Rs} (hp : ∀ (x0 : Int32) (M : Mm) (r : Rs), f x0 M = some r → T_X3_fail_0 ad r F_X0_figure F_X0_setValue F_X2_push F_X3_hasFailed F_X3_requireJoined F_X3_requireMember [some (.ref (ad 0)), some (.int x0), none] [] M) : Co_X3_fail l ad D cI cL (sp_I f) ∧ Cx_X3_fail l ad D cI cL (sp_I f) := by
  refine ⟨k_con2 (tree := fun r => T_X3_fail_0 ad r F_X0_figure F_X0_setValue F_X2_push F_X3_hasFailed F_X3_requireJoined F_X3_requireMember) hI (by decide +kernel) (fun X res hl hD C E T => S_X3_fail_0 C E T (k_cvOf hl hD h_X0_figure) (k_cvOf hl hD h_X0_setValue) (k_cvOf hl hD h_X2_push) (k_cvOf hl hD h_X3_hasFailed) (k_cvOf hl hD h_X3_requireJoined) (k_cvOf hl hD h_X3_requireMember) (k_ctOf hl hD hx_X3_requireJoined) (k_ctOf hl hD hx_X3_requireMember)) (fun As M r hF => by
    unfold sp_I at hF
    split at hF
    · exact ⟨Nat.le_of_ble_eq_true rfl, _, k_inL rfl, hp _ M _ hF⟩
    · cases hF), k_thr (tree := fun r => T_X3_fail_0 ad r F_X0_figure F_X0_setValue F_X2_push F_X3_hasFailed F_X3_requireJoined F_X3_requireMember) hI hf (by decide +kernel) (fun X res hl hD C E T => S_X3_fail_0 C E T (k_cvOf hl hD h_X0_figure) (k_cvOf hl hD h_X0_setValue) (k_cvOf hl hD h_X2_push) (k_cvOf hl hD h_X3_hasFailed) (k_cvOf hl hD h_X3_requireJoined) (k_cvOf hl hD h_X3_requireMember) (k_ctOf hl hD hx_X3_requireJoined) (k_ctOf hl hD hx_X3_requireMember)) (fun As M r hF => by
    unfold sp_I at hF
    split at hF
    · exact ⟨Nat.le_of_ble_eq_true rfl, _, k_inL rfl, hp _ M _ hF⟩
    · cases hF)⟩
theorem con_X3_setBound {l : Launch} {ad : Nat → Nat} {D : va_G} {cI cL : ClassId} {F_X0_setValue F_X0_value F_X1_attachOrphans F_X1_cutChildren F_X2_push F_X3_requireJoined F_X3_requireMember F_X3_requireRange : Sp} (hI : k_I ad) (hf : l.stackTraces = false) (h_X0_setValue : Co_X0_setValue l ad D cI cL F_X0_setValue) (h_X0_value : Co_X0_value l ad D cI cL F_X0_value) (h_X1_attachOrphans : Co_X1_attachOrphans l ad D cI cL F_X1_attachOrphans) (h_X1_cutChildren : Co_X1_cutChildren l ad D cI cL F_X1_cutChildren) (h_X2_push : Co_X2_push l ad D cI cL F_X2_push) (h_X3_requireJoined : Co_X3_requireJoined l ad D cI cL F_X3_requireJoined) (h_X3_requireMember : Co_X3_requireMember l ad D cI cL F_X3_requireMember) (h_X3_requireRange : Co_X3_requireRange l ad D cI cL F_X3_requireRange) (hx_X3_requireJoined : Cx_X3_requireJoined l ad D cI cL F_X3_requireJoined) (hx_X3_requireMember : Cx_X3_requireMember l ad D cI cL F_X3_requireMember) (hx_X3_requireRange : Cx_X3_requireRange l ad D cI cL F_X3_requireRange) {f : Int32 → Int32 → Mm → Option Rs} (hp : ∀ (x0 : Int32) (x1 : Int32) (M : Mm) (r : Rs), f x0 x1 M = some r → T_X3_setBound_0 ad r F_X0_setValue F_X0_value F_X1_attachOrphans F_X1_cutChildren F_X2_push F_X3_requireJoined F_X3_requireMember F_X3_requireRange [some (.ref (ad 0)), some (.int x0), some (.int x1), none] [] M) : Co_X3_setBound l ad D cI cL (sp_II f) ∧ Cx_X3_setBound l ad D cI cL (sp_II f) := by
  refine ⟨k_con2 (tree := fun r => T_X3_setBound_0 ad r F_X0_setValue F_X0_value F_X1_attachOrphans F_X1_cutChildren F_X2_push F_X3_requireJoined F_X3_requireMember F_X3_requireRange) hI (by decide +kernel) (fun X res hl hD C E T => S_X3_setBound_0 C E T (k_cvOf hl hD h_X0_setValue) (k_cvOf hl hD h_X0_value) (k_cvOf hl hD h_X1_attachOrphans) (k_cvOf hl hD h_X1_cutChildren) (k_cvOf hl hD h_X2_push) (k_cvOf hl hD h_X3_requireJoined) (k_cvOf hl hD h_X3_requireMember) (k_cvOf hl hD h_X3_requireRange) (k_ctOf hl hD hx_X3_requireJoined) (k_ctOf hl hD hx_X3_requireMember) (k_ctOf hl hD hx_X3_requireRange)) (fun As M r hF => by
    unfold sp_II at hF
    split at hF
    · exact ⟨Nat.le_of_ble_eq_true rfl, _, k_inL rfl, hp _ _ M _ hF⟩
    · cases hF), k_thr (tree := fun r => T_X3_setBound_0 ad r F_X0_setValue F_X0_value F_X1_attachOrphans F_X1_cutChildren F_X2_push F_X3_requireJoined F_X3_requireMember F_X3_requireRange) hI hf (by decide +kernel) (fun X res hl hD C E T => S_X3_setBound_0 C E T (k_cvOf hl hD h_X0_setValue) (k_cvOf hl hD h_X0_value) (k_cvOf hl hD h_X1_attachOrphans) (k_cvOf hl hD h_X1_cutChildren) (k_cvOf hl hD h_X2_push) (k_cvOf hl hD h_X3_requireJoined) (k_cvOf hl hD h_X3_requireMember) (k_cvOf hl hD h_X3_requireRange) (k_ctOf hl hD hx_X3_requireJoined) (k_ctOf hl hD hx_X3_requireMember) (k_ctOf hl hD hx_X3_requireRange)) (fun As M r hF => by
    unfold sp_II at hF
    split at hF
    · exact ⟨Nat.le_of_ble_eq_true rfl, _, k_inL rfl, hp _ _ M _ hF⟩
    · cases hF)⟩
theorem con_X3_setSource {l : Launch} {ad : Nat → Nat} {D : va_G} {cI cL : ClassId} {F_X0_figure F_X0_setFigure F_X1_attachOrphans F_X1_cutChildren F_X2_push F_X3_requireRange : Sp} (hI : k_I ad) (hf : l.stackTraces = false) (h_X0_figure : Co_X0_figure l ad D cI cL F_X0_figure) (h_X0_setFigure : Co_X0_setFigure l ad D cI cL F_X0_setFigure) (h_X1_attachOrphans : Co_X1_attachOrphans l ad D cI cL F_X1_attachOrphans) (h_X1_cutChildren : Co_X1_cutChildren l ad D cI cL F_X1_cutChildren) (h_X2_push : Co_X2_push l ad D cI cL F_X2_push) (h_X3_requireRange : Co_X3_requireRange l ad D cI cL F_X3_requireRange) (hx_X3_requireRange : Cx_X3_requireRange l ad D cI cL F_X3_requireRange) {f : Int32 → Mm → Option Rs} (hp : ∀ (x0 : Int32) (M : Mm) (r : Rs), f x0 M = some r → T_X3_setSource_0 ad r F_X0_figure F_X0_setFigure F_X1_attachOrphans F_X1_cutChildren F_X2_push F_X3_requireRange [some (.ref (ad 0)), some (.int x0), none, none] [] M) : Co_X3_setSource l ad D cI cL (sp_I f) ∧ Cx_X3_setSource l ad D cI cL (sp_I f) := by
  refine ⟨k_con2 (tree := fun r => T_X3_setSource_0 ad r F_X0_figure F_X0_setFigure F_X1_attachOrphans F_X1_cutChildren F_X2_push F_X3_requireRange) hI (by decide +kernel) (fun X res hl hD C E T => S_X3_setSource_0 C E T (k_cvOf hl hD h_X0_figure) (k_cvOf hl hD h_X0_setFigure) (k_cvOf hl hD h_X1_attachOrphans) (k_cvOf hl hD h_X1_cutChildren) (k_cvOf hl hD h_X2_push) (k_cvOf hl hD h_X3_requireRange) (k_ctOf hl hD hx_X3_requireRange)) (fun As M r hF => by
    unfold sp_I at hF
    split at hF
    · exact ⟨Nat.le_of_ble_eq_true rfl, _, k_inL rfl, hp _ M _ hF⟩
    · cases hF), k_thr (tree := fun r => T_X3_setSource_0 ad r F_X0_figure F_X0_setFigure F_X1_attachOrphans F_X1_cutChildren F_X2_push F_X3_requireRange) hI hf (by decide +kernel) (fun X res hl hD C E T => S_X3_setSource_0 C E T (k_cvOf hl hD h_X0_figure) (k_cvOf hl hD h_X0_setFigure) (k_cvOf hl hD h_X1_attachOrphans) (k_cvOf hl hD h_X1_cutChildren) (k_cvOf hl hD h_X2_push) (k_cvOf hl hD h_X3_requireRange) (k_ctOf hl hD hx_X3_requireRange)) (fun As M r hF => by
    unfold sp_I at hF
    split at hF
    · exact ⟨Nat.le_of_ble_eq_true rfl, _, k_inL rfl, hp _ M _ hF⟩
    · cases hF)⟩
theorem con_X3_setDelay {l : Launch} {ad : Nat → Nat} {D : va_G} {cI cL : ClassId} {F_X0_figure F_X0_setFigure F_X2_push F_X3_requireRange : Sp} (hI : k_I ad) (hf : l.stackTraces = false) (h_X0_figure : Co_X0_figure l ad D cI cL F_X0_figure) (h_X0_setFigure : Co_X0_setFigure l ad D cI cL F_X0_setFigure) (h_X2_push : Co_X2_push l ad D cI cL F_X2_push) (h_X3_requireRange : Co_X3_requireRange l ad D cI cL F_X3_requireRange) (hx_X3_requireRange : Cx_X3_requireRange l ad D cI cL F_X3_requireRange) {f : Int32 → Mm → Option Rs} (hp : ∀ (x0 : Int32) (M : Mm) (r : Rs), f x0 M = some r → T_X3_setDelay_0 ad r F_X0_figure F_X0_setFigure F_X2_push F_X3_requireRange [some (.ref (ad 0)), some (.int x0), none] [] M) : Co_X3_setDelay l ad D cI cL (sp_I f) ∧ Cx_X3_setDelay l ad D cI cL (sp_I f) := by
  refine ⟨k_con2 (tree := fun r => T_X3_setDelay_0 ad r F_X0_figure F_X0_setFigure F_X2_push F_X3_requireRange) hI (by decide +kernel) (fun X res hl hD C E T => S_X3_setDelay_0 C E T (k_cvOf hl hD h_X0_figure) (k_cvOf hl hD h_X0_setFigure) (k_cvOf hl hD h_X2_push) (k_cvOf hl hD h_X3_requireRange) (k_ctOf hl hD hx_X3_requireRange)) (fun As M r hF => by
    unfold sp_I at hF
    split at hF
    · exact ⟨Nat.le_of_ble_eq_true rfl, _, k_inL rfl, hp _ M _ hF⟩
    · cases hF), k_thr (tree := fun r => T_X3_setDelay_0 ad r F_X0_figure F_X0_setFigure F_X2_push F_X3_requireRange) hI hf (by decide +kernel) (fun X res hl hD C E T => S_X3_setDelay_0 C E T (k_cvOf hl hD h_X0_figure) (k_cvOf hl hD h_X0_setFigure) (k_cvOf hl hD h_X2_push) (k_cvOf hl hD h_X3_requireRange) (k_ctOf hl hD hx_X3_requireRange)) (fun As M r hF => by
    unfold sp_I at hF
    split at hF
    · exact ⟨Nat.le_of_ble_eq_true rfl, _, k_inL rfl, hp _ M _ hF⟩
    · cases hF)⟩
theorem con_X3_repair {l : Launch} {ad : Nat → Nat} {D : va_G} {cI cL : ClassId} {F_X1_attachOrphans F_X1_orphans F_X2_push : Sp} (hI : k_I ad) (h_X1_attachOrphans : Co_X1_attachOrphans l ad D cI cL F_X1_attachOrphans) (h_X1_orphans : Co_X1_orphans l ad D cI cL F_X1_orphans) (h_X2_push : Co_X2_push l ad D cI cL F_X2_push) {f : Mm → Option Rs} (hp : ∀ (M : Mm) (r : Rs), f M = some r → T_X3_repair_0 ad r F_X1_attachOrphans F_X1_orphans F_X2_push [some (.ref (ad 0)), none, none] [] M) : Co_X3_repair l ad D cI cL (sp_V f) := by
  exact k_con (tree := fun r => T_X3_repair_0 ad r F_X1_attachOrphans F_X1_orphans F_X2_push) hI (plainFor_of_name (by decide +kernel)) (fun X res hl hD C E => S_X3_repair_0 C E (k_cvOf hl hD h_X1_attachOrphans) (k_cvOf hl hD h_X1_orphans) (k_cvOf hl hD h_X2_push)) (fun As M r hF => by
    unfold sp_V at hF
    split at hF
    · exact ⟨Nat.le_of_ble_eq_true rfl, _, k_inL rfl, hp M _ hF⟩
    · cases hF)
theorem con_X3_requireStripe {l : Launch} {ad : Nat → Nat} {D : va_G} {cI cL : ClassId} (hI : k_I ad) (hf : l.stackTraces = false) {f : Int32 → Mm → Option Rs} (hp : ∀ (x0 : Int32) (M : Mm) (r : Rs), f x0 M = some r → T_X3_requireStripe_0 ad r [some (.int x0)] [] M) : Co_X3_requireStripe l ad D cI cL (sp_I f) ∧ Cx_X3_requireStripe l ad D cI cL (sp_I f) := by
  refine ⟨k_con2 (tree := fun r => T_X3_requireStripe_0 ad r) hI (by decide +kernel) (fun X res hl hD C E T => S_X3_requireStripe_0 C E T) (fun As M r hF => by
    unfold sp_I at hF
    split at hF
    · exact ⟨Nat.le_of_ble_eq_true rfl, _, k_inL rfl, hp _ M _ hF⟩
    · cases hF), k_thr (tree := fun r => T_X3_requireStripe_0 ad r) hI hf (by decide +kernel) (fun X res hl hD C E T => S_X3_requireStripe_0 C E T) (fun As M r hF => by
    unfold sp_I at hF
    split at hF
    · exact ⟨Nat.le_of_ble_eq_true rfl, _, k_inL rfl, hp _ M _ hF⟩
    · cases hF)⟩
theorem con_X3_rejoin {l : Launch} {ad : Nat → Nat} {D : va_G} {cI cL : ClassId} {F_X0_moveTo F_X0_parentOf F_X1_attach F_X2_push F_X3_requireJoined F_X3_requireMember F_X3_requireStripe : Sp} (hI : k_I ad) (hf : l.stackTraces = false) (h_X0_moveTo : Co_X0_moveTo l ad D cI cL F_X0_moveTo) (h_X0_parentOf : Co_X0_parentOf l ad D cI cL F_X0_parentOf) (h_X1_attach : Co_X1_attach l ad D cI cL F_X1_attach) (h_X2_push : Co_X2_push l ad D cI cL F_X2_push) (h_X3_requireJoined : Co_X3_requireJoined l ad D cI cL F_X3_requireJoined) (h_X3_requireMember : Co_X3_requireMember l ad D cI cL F_X3_requireMember) (h_X3_requireStripe : Co_X3_requireStripe l ad D cI cL F_X3_requireStripe) (hx_X3_requireJoined : Cx_X3_requireJoined l ad D cI cL F_X3_requireJoined) (hx_X3_requireMember : Cx_X3_requireMember l ad D cI cL F_X3_requireMember) (hx_X3_requireStripe : Cx_X3_requireStripe l ad D cI cL F_X3_requireStripe) {f : Int32 → Int32 → Mm → Option Rs} (hp : ∀ (x0 : Int32) (x1 : Int32) (M : Mm) (r : Rs), f x0 x1 M = some r → T_X3_rejoin_0 ad r F_X0_moveTo F_X0_parentOf F_X1_attach F_X2_push F_X3_requireJoined F_X3_requireMember F_X3_requireStripe [some (.ref (ad 0)), some (.int x0), some (.int x1)] [] M) : Co_X3_rejoin l ad D cI cL (sp_II f) ∧ Cx_X3_rejoin l ad D cI cL (sp_II f) := by
  refine ⟨k_con2 (tree := fun r => T_X3_rejoin_0 ad r F_X0_moveTo F_X0_parentOf F_X1_attach F_X2_push F_X3_requireJoined F_X3_requireMember F_X3_requireStripe) hI (by decide +kernel) (fun X res hl hD C E T => S_X3_rejoin_0 C E T (k_cvOf hl hD h_X0_moveTo) (k_cvOf hl hD h_X0_parentOf) (k_cvOf hl hD h_X1_attach) (k_cvOf hl hD h_X2_push) (k_cvOf hl hD h_X3_requireJoined) (k_cvOf hl hD h_X3_requireMember) (k_cvOf hl hD h_X3_requireStripe) (k_ctOf hl hD hx_X3_requireJoined) (k_ctOf hl hD hx_X3_requireMember) (k_ctOf hl hD hx_X3_requireStripe)) (fun As M r hF => by
    unfold sp_II at hF
    split at hF
    · exact ⟨Nat.le_of_ble_eq_true rfl, _, k_inL rfl, hp _ _ M _ hF⟩
    · cases hF), k_thr (tree := fun r => T_X3_rejoin_0 ad r F_X0_moveTo F_X0_parentOf F_X1_attach F_X2_push F_X3_requireJoined F_X3_requireMember F_X3_requireStripe) hI hf (by decide +kernel) (fun X res hl hD C E T => S_X3_rejoin_0 C E T (k_cvOf hl hD h_X0_moveTo) (k_cvOf hl hD h_X0_parentOf) (k_cvOf hl hD h_X1_attach) (k_cvOf hl hD h_X2_push) (k_cvOf hl hD h_X3_requireJoined) (k_cvOf hl hD h_X3_requireMember) (k_cvOf hl hD h_X3_requireStripe) (k_ctOf hl hD hx_X3_requireJoined) (k_ctOf hl hD hx_X3_requireMember) (k_ctOf hl hD hx_X3_requireStripe)) (fun As M r hF => by
    unfold sp_II at hF
    split at hF
    · exact ⟨Nat.le_of_ble_eq_true rfl, _, k_inL rfl, hp _ _ M _ hF⟩
    · cases hF)⟩
theorem con_X3_noticeFailures {l : Launch} {ad : Nat → Nat} {D : va_G} {cI cL : ClassId} {F_X0_addToFigure F_X0_figure F_X0_value F_X1_attachOrphans F_X1_takeOut F_X3_hasFailed : Sp} (hI : k_I ad) (h_X0_addToFigure : Co_X0_addToFigure l ad D cI cL F_X0_addToFigure) (h_X0_figure : Co_X0_figure l ad D cI cL F_X0_figure) (h_X0_value : Co_X0_value l ad D cI cL F_X0_value) (h_X1_attachOrphans : Co_X1_attachOrphans l ad D cI cL F_X1_attachOrphans) (h_X1_takeOut : Co_X1_takeOut l ad D cI cL F_X1_takeOut) (h_X3_hasFailed : Co_X3_hasFailed l ad D cI cL F_X3_hasFailed) {f : Mm → Option Rs} (hp : ∀ (M : Mm) (r : Rs), f M = some r → T_X3_noticeFailures_0 ad r F_X0_addToFigure F_X0_figure F_X0_value F_X1_attachOrphans F_X1_takeOut F_X3_hasFailed [some (.ref (ad 0)), none] [] M) : Co_X3_noticeFailures l ad D cI cL (sp_V f) := by
  exact k_con (tree := fun r => T_X3_noticeFailures_0 ad r F_X0_addToFigure F_X0_figure F_X0_value F_X1_attachOrphans F_X1_takeOut F_X3_hasFailed) hI (plainFor_of_name (by decide +kernel)) (fun X res hl hD C E => S_X3_noticeFailures_0 C E (k_cvOf hl hD h_X0_addToFigure) (k_cvOf hl hD h_X0_figure) (k_cvOf hl hD h_X0_value) (k_cvOf hl hD h_X1_attachOrphans) (k_cvOf hl hD h_X1_takeOut) (k_cvOf hl hD h_X3_hasFailed)) (fun As M r hF => by
    unfold sp_V at hF
    split at hF
    · exact ⟨Nat.le_of_ble_eq_true rfl, _, k_inL rfl, hp M _ hF⟩
    · cases hF)
theorem con_X3_quietTicks {l : Launch} {ad : Nat → Nat} {D : va_G} {cI cL : ClassId} {F_X0_figure F_X0_value F_X3_hasFailed : Sp} (hI : k_I ad) (h_X0_figure : Co_X0_figure l ad D cI cL F_X0_figure) (h_X0_value : Co_X0_value l ad D cI cL F_X0_value) (h_X3_hasFailed : Co_X3_hasFailed l ad D cI cL F_X3_hasFailed) {f : Mm → Option Rs} (hp : ∀ (M : Mm) (r : Rs), f M = some r → T_X3_quietTicks_0 ad r F_X0_figure F_X0_value F_X3_hasFailed [some (.ref (ad 0)), none, none] [] M) : Co_X3_quietTicks l ad D cI cL (sp_V f) := by
  exact k_con (tree := fun r => T_X3_quietTicks_0 ad r F_X0_figure F_X0_value F_X3_hasFailed) hI (plainFor_of_name (by decide +kernel)) (fun X res hl hD C E => S_X3_quietTicks_0 C E (k_cvOf hl hD h_X0_figure) (k_cvOf hl hD h_X0_value) (k_cvOf hl hD h_X3_hasFailed)) (fun As M r hF => by
    unfold sp_V at hF
    split at hF
    · exact ⟨Nat.le_of_ble_eq_true rfl, _, k_inL rfl, hp M _ hF⟩
    · cases hF)
theorem con_X3_receiveBlocks {l : Launch} {ad : Nat → Nat} {D : va_G} {cI cL : ClassId} {F_X0_addToFigure F_X0_addToValue F_X1_piecesOf F_X3_hasFailed : Sp} (hI : k_I ad) (h_X0_addToFigure : Co_X0_addToFigure l ad D cI cL F_X0_addToFigure) (h_X0_addToValue : Co_X0_addToValue l ad D cI cL F_X0_addToValue) (h_X1_piecesOf : Co_X1_piecesOf l ad D cI cL F_X1_piecesOf) (h_X3_hasFailed : Co_X3_hasFailed l ad D cI cL F_X3_hasFailed) {f : Int32 → Int32 → Mm → Option Rs} (hp : ∀ (x0 : Int32) (x1 : Int32) (M : Mm) (r : Rs), f x0 x1 M = some r → T_X3_receiveBlocks_0 ad r F_X0_addToFigure F_X0_addToValue F_X1_piecesOf F_X3_hasFailed [some (.ref (ad 0)), some (.int x0), some (.int x1), none] [] M) : Co_X3_receiveBlocks l ad D cI cL (sp_II f) := by
  exact k_con (tree := fun r => T_X3_receiveBlocks_0 ad r F_X0_addToFigure F_X0_addToValue F_X1_piecesOf F_X3_hasFailed) hI (plainFor_of_name (by decide +kernel)) (fun X res hl hD C E => S_X3_receiveBlocks_0 C E (k_cvOf hl hD h_X0_addToFigure) (k_cvOf hl hD h_X0_addToValue) (k_cvOf hl hD h_X1_piecesOf) (k_cvOf hl hD h_X3_hasFailed)) (fun As M r hF => by
    unfold sp_II at hF
    split at hF
    · exact ⟨Nat.le_of_ble_eq_true rfl, _, k_inL rfl, hp _ _ M _ hF⟩
    · cases hF)
theorem con_X3_sendBlocks {l : Launch} {ad : Nat → Nat} {D : va_G} {cI cL : ClassId} {F_X0_addToFigure F_X3_isJoined F_X3_receiveBlocks : Sp} (hI : k_I ad) (h_X0_addToFigure : Co_X0_addToFigure l ad D cI cL F_X0_addToFigure) (h_X3_isJoined : Co_X3_isJoined l ad D cI cL F_X3_isJoined) (h_X3_receiveBlocks : Co_X3_receiveBlocks l ad D cI cL F_X3_receiveBlocks) {f : Int32 → Mm → Option Rs} (hp : ∀ (x0 : Int32) (M : Mm) (r : Rs), f x0 M = some r → T_X3_sendBlocks_0 ad r F_X0_addToFigure F_X3_isJoined F_X3_receiveBlocks [some (.ref (ad 0)), some (.int x0), none, none] [] M) : Co_X3_sendBlocks l ad D cI cL (sp_I f) := by
  exact k_con (tree := fun r => T_X3_sendBlocks_0 ad r F_X0_addToFigure F_X3_isJoined F_X3_receiveBlocks) hI (plainFor_of_name (by decide +kernel)) (fun X res hl hD C E => S_X3_sendBlocks_0 C E (k_cvOf hl hD h_X0_addToFigure) (k_cvOf hl hD h_X3_isJoined) (k_cvOf hl hD h_X3_receiveBlocks)) (fun As M r hF => by
    unfold sp_I at hF
    split at hF
    · exact ⟨Nat.le_of_ble_eq_true rfl, _, k_inL rfl, hp _ M _ hF⟩
    · cases hF)
theorem con_X3_tick {l : Launch} {ad : Nat → Nat} {D : va_G} {cI cL : ClassId} {F_X0_addToFigure F_X2_push F_X3_noticeFailures F_X3_quietTicks F_X3_requireRange F_X3_sendBlocks : Sp} (hI : k_I ad) (hf : l.stackTraces = false) (h_X0_addToFigure : Co_X0_addToFigure l ad D cI cL F_X0_addToFigure) (h_X2_push : Co_X2_push l ad D cI cL F_X2_push) (h_X3_noticeFailures : Co_X3_noticeFailures l ad D cI cL F_X3_noticeFailures) (h_X3_quietTicks : Co_X3_quietTicks l ad D cI cL F_X3_quietTicks) (h_X3_requireRange : Co_X3_requireRange l ad D cI cL F_X3_requireRange) (h_X3_sendBlocks : Co_X3_sendBlocks l ad D cI cL F_X3_sendBlocks) (hx_X3_requireRange : Cx_X3_requireRange l ad D cI cL F_X3_requireRange) {f : Int32 → Mm → Option Rs} (hp : ∀ (x0 : Int32) (M : Mm) (r : Rs), f x0 M = some r → T_X3_tick_0 ad r F_X0_addToFigure F_X2_push F_X3_noticeFailures F_X3_quietTicks F_X3_requireRange F_X3_sendBlocks [some (.ref (ad 0)), some (.int x0), none, none, none] [] M) : Co_X3_tick l ad D cI cL (sp_I f) ∧ Cx_X3_tick l ad D cI cL (sp_I f) := by
  refine ⟨k_con2 (tree := fun r => T_X3_tick_0 ad r F_X0_addToFigure F_X2_push F_X3_noticeFailures F_X3_quietTicks F_X3_requireRange F_X3_sendBlocks) hI (by decide +kernel) (fun X res hl hD C E T => S_X3_tick_0 C E T (k_cvOf hl hD h_X0_addToFigure) (k_cvOf hl hD h_X2_push) (k_cvOf hl hD h_X3_noticeFailures) (k_cvOf hl hD h_X3_quietTicks) (k_cvOf hl hD h_X3_requireRange) (k_cvOf hl hD h_X3_sendBlocks) (k_ctOf hl hD hx_X3_requireRange)) (fun As M r hF => by
    unfold sp_I at hF
    split at hF
    · exact ⟨Nat.le_of_ble_eq_true rfl, _, k_inL rfl, hp _ M _ hF⟩
    · cases hF), k_thr (tree := fun r => T_X3_tick_0 ad r F_X0_addToFigure F_X2_push F_X3_noticeFailures F_X3_quietTicks F_X3_requireRange F_X3_sendBlocks) hI hf (by decide +kernel) (fun X res hl hD C E T => S_X3_tick_0 C E T (k_cvOf hl hD h_X0_addToFigure) (k_cvOf hl hD h_X2_push) (k_cvOf hl hD h_X3_noticeFailures) (k_cvOf hl hD h_X3_quietTicks) (k_cvOf hl hD h_X3_requireRange) (k_cvOf hl hD h_X3_sendBlocks) (k_ctOf hl hD hx_X3_requireRange)) (fun As M r hF => by
    unfold sp_I at hF
    split at hF
    · exact ⟨Nat.le_of_ble_eq_true rfl, _, k_inL rfl, hp _ M _ hF⟩
    · cases hF)⟩
theorem con_X3_time {l : Launch} {ad : Nat → Nat} {D : va_G} {cI cL : ClassId} {F_X0_figure : Sp} (hI : k_I ad) (h_X0_figure : Co_X0_figure l ad D cI cL F_X0_figure) {f : Mm → Option Rs} (hp : ∀ (M : Mm) (r : Rs), f M = some r → T_X3_time_0 ad r F_X0_figure [some (.ref (ad 0))] [] M) : Co_X3_time l ad D cI cL (sp_V f) := by
  exact k_con (tree := fun r => T_X3_time_0 ad r F_X0_figure) hI (plainFor_of_name (by decide +kernel)) (fun X res hl hD C E => S_X3_time_0 C E (k_cvOf hl hD h_X0_figure)) (fun As M r hF => by
    unfold sp_V at hF
    split at hF
    · exact ⟨Nat.le_of_ble_eq_true rfl, _, k_inL rfl, hp M _ hF⟩
    · cases hF)
theorem con_X3_member {l : Launch} {ad : Nat → Nat} {D : va_G} {cI cL : ClassId} {F_X0_value F_X3_requireMember F_X3_requireRange : Sp} (hI : k_I ad) (hf : l.stackTraces = false) (h_X0_value : Co_X0_value l ad D cI cL F_X0_value) (h_X3_requireMember : Co_X3_requireMember l ad D cI cL F_X3_requireMember) (h_X3_requireRange : Co_X3_requireRange l ad D cI cL F_X3_requireRange) (hx_X3_requireMember : Cx_X3_requireMember l ad D cI cL F_X3_requireMember) (hx_X3_requireRange : Cx_X3_requireRange l ad D cI cL F_X3_requireRange) {f : Int32 → Int32 → Mm → Option Rs} (hp : ∀ (x0 : Int32) (x1 : Int32) (M : Mm) (r : Rs), f x0 x1 M = some r → T_X3_member_0 ad r F_X0_value F_X3_requireMember F_X3_requireRange [some (.ref (ad 0)), some (.int x0), some (.int x1)] [] M) : Co_X3_member l ad D cI cL (sp_II f) ∧ Cx_X3_member l ad D cI cL (sp_II f) := by
  refine ⟨k_con2 (tree := fun r => T_X3_member_0 ad r F_X0_value F_X3_requireMember F_X3_requireRange) hI (by decide +kernel) (fun X res hl hD C E T => S_X3_member_0 C E T (k_cvOf hl hD h_X0_value) (k_cvOf hl hD h_X3_requireMember) (k_cvOf hl hD h_X3_requireRange) (k_ctOf hl hD hx_X3_requireMember) (k_ctOf hl hD hx_X3_requireRange)) (fun As M r hF => by
    unfold sp_II at hF
    split at hF
    · exact ⟨Nat.le_of_ble_eq_true rfl, _, k_inL rfl, hp _ _ M _ hF⟩
    · cases hF), k_thr (tree := fun r => T_X3_member_0 ad r F_X0_value F_X3_requireMember F_X3_requireRange) hI hf (by decide +kernel) (fun X res hl hD C E T => S_X3_member_0 C E T (k_cvOf hl hD h_X0_value) (k_cvOf hl hD h_X3_requireMember) (k_cvOf hl hD h_X3_requireRange) (k_ctOf hl hD hx_X3_requireMember) (k_ctOf hl hD hx_X3_requireRange)) (fun As M r hF => by
    unfold sp_II at hF
    split at hF
    · exact ⟨Nat.le_of_ble_eq_true rfl, _, k_inL rfl, hp _ _ M _ hF⟩
    · cases hF)⟩
theorem con_X3_parent {l : Launch} {ad : Nat → Nat} {D : va_G} {cI cL : ClassId} {F_X0_parentOf F_X3_requireJoined F_X3_requireMember F_X3_requireStripe : Sp} (hI : k_I ad) (hf : l.stackTraces = false) (h_X0_parentOf : Co_X0_parentOf l ad D cI cL F_X0_parentOf) (h_X3_requireJoined : Co_X3_requireJoined l ad D cI cL F_X3_requireJoined) (h_X3_requireMember : Co_X3_requireMember l ad D cI cL F_X3_requireMember) (h_X3_requireStripe : Co_X3_requireStripe l ad D cI cL F_X3_requireStripe) (hx_X3_requireJoined : Cx_X3_requireJoined l ad D cI cL F_X3_requireJoined) (hx_X3_requireMember : Cx_X3_requireMember l ad D cI cL F_X3_requireMember) (hx_X3_requireStripe : Cx_X3_requireStripe l ad D cI cL F_X3_requireStripe) {f : Int32 → Int32 → Mm → Option Rs} (hp : ∀ (x0 : Int32) (x1 : Int32) (M : Mm) (r : Rs), f x0 x1 M = some r → T_X3_parent_0 ad r F_X0_parentOf F_X3_requireJoined F_X3_requireMember F_X3_requireStripe [some (.ref (ad 0)), some (.int x0), some (.int x1)] [] M) : Co_X3_parent l ad D cI cL (sp_II f) ∧ Cx_X3_parent l ad D cI cL (sp_II f) := by
  refine ⟨k_con2 (tree := fun r => T_X3_parent_0 ad r F_X0_parentOf F_X3_requireJoined F_X3_requireMember F_X3_requireStripe) hI (by decide +kernel) (fun X res hl hD C E T => S_X3_parent_0 C E T (k_cvOf hl hD h_X0_parentOf) (k_cvOf hl hD h_X3_requireJoined) (k_cvOf hl hD h_X3_requireMember) (k_cvOf hl hD h_X3_requireStripe) (k_ctOf hl hD hx_X3_requireJoined) (k_ctOf hl hD hx_X3_requireMember) (k_ctOf hl hD hx_X3_requireStripe)) (fun As M r hF => by
    unfold sp_II at hF
    split at hF
    · exact ⟨Nat.le_of_ble_eq_true rfl, _, k_inL rfl, hp _ _ M _ hF⟩
    · cases hF), k_thr (tree := fun r => T_X3_parent_0 ad r F_X0_parentOf F_X3_requireJoined F_X3_requireMember F_X3_requireStripe) hI hf (by decide +kernel) (fun X res hl hD C E T => S_X3_parent_0 C E T (k_cvOf hl hD h_X0_parentOf) (k_cvOf hl hD h_X3_requireJoined) (k_cvOf hl hD h_X3_requireMember) (k_cvOf hl hD h_X3_requireStripe) (k_ctOf hl hD hx_X3_requireJoined) (k_ctOf hl hD hx_X3_requireMember) (k_ctOf hl hD hx_X3_requireStripe)) (fun As M r hF => by
    unfold sp_II at hF
    split at hF
    · exact ⟨Nat.le_of_ble_eq_true rfl, _, k_inL rfl, hp _ _ M _ hF⟩
    · cases hF)⟩
theorem con_X3_depth {l : Launch} {ad : Nat → Nat} {D : va_G} {cI cL : ClassId} {F_X1_depthOf F_X3_requireJoined F_X3_requireMember F_X3_requireStripe : Sp} (hI : k_I ad) (hf : l.stackTraces = false) (h_X1_depthOf : Co_X1_depthOf l ad D cI cL F_X1_depthOf) (h_X3_requireJoined : Co_X3_requireJoined l ad D cI cL F_X3_requireJoined) (h_X3_requireMember : Co_X3_requireMember l ad D cI cL F_X3_requireMember) (h_X3_requireStripe : Co_X3_requireStripe l ad D cI cL F_X3_requireStripe) (hx_X3_requireJoined : Cx_X3_requireJoined l ad D cI cL F_X3_requireJoined) (hx_X3_requireMember : Cx_X3_requireMember l ad D cI cL F_X3_requireMember) (hx_X3_requireStripe : Cx_X3_requireStripe l ad D cI cL F_X3_requireStripe) {f : Int32 → Int32 → Mm → Option Rs} (hp : ∀ (x0 : Int32) (x1 : Int32) (M : Mm) (r : Rs), f x0 x1 M = some r → T_X3_depth_0 ad r F_X1_depthOf F_X3_requireJoined F_X3_requireMember F_X3_requireStripe [some (.ref (ad 0)), some (.int x0), some (.int x1)] [] M) : Co_X3_depth l ad D cI cL (sp_II f) ∧ Cx_X3_depth l ad D cI cL (sp_II f) := by
  refine ⟨k_con2 (tree := fun r => T_X3_depth_0 ad r F_X1_depthOf F_X3_requireJoined F_X3_requireMember F_X3_requireStripe) hI (by decide +kernel) (fun X res hl hD C E T => S_X3_depth_0 C E T (k_cvOf hl hD h_X1_depthOf) (k_cvOf hl hD h_X3_requireJoined) (k_cvOf hl hD h_X3_requireMember) (k_cvOf hl hD h_X3_requireStripe) (k_ctOf hl hD hx_X3_requireJoined) (k_ctOf hl hD hx_X3_requireMember) (k_ctOf hl hD hx_X3_requireStripe)) (fun As M r hF => by
    unfold sp_II at hF
    split at hF
    · exact ⟨Nat.le_of_ble_eq_true rfl, _, k_inL rfl, hp _ _ M _ hF⟩
    · cases hF), k_thr (tree := fun r => T_X3_depth_0 ad r F_X1_depthOf F_X3_requireJoined F_X3_requireMember F_X3_requireStripe) hI hf (by decide +kernel) (fun X res hl hD C E T => S_X3_depth_0 C E T (k_cvOf hl hD h_X1_depthOf) (k_cvOf hl hD h_X3_requireJoined) (k_cvOf hl hD h_X3_requireMember) (k_cvOf hl hD h_X3_requireStripe) (k_ctOf hl hD hx_X3_requireJoined) (k_ctOf hl hD hx_X3_requireMember) (k_ctOf hl hD hx_X3_requireStripe)) (fun As M r hF => by
    unfold sp_II at hF
    split at hF
    · exact ⟨Nat.le_of_ble_eq_true rfl, _, k_inL rfl, hp _ _ M _ hF⟩
    · cases hF)⟩
theorem con_X3_requirePlace {l : Launch} {ad : Nat → Nat} {D : va_G} {cI cL : ClassId} {F_X3_requireMember : Sp} (hI : k_I ad) (hf : l.stackTraces = false) (h_X3_requireMember : Co_X3_requireMember l ad D cI cL F_X3_requireMember) (hx_X3_requireMember : Cx_X3_requireMember l ad D cI cL F_X3_requireMember) {f : Int32 → Mm → Option Rs} (hp : ∀ (x0 : Int32) (M : Mm) (r : Rs), f x0 M = some r → T_X3_requirePlace_0 ad r F_X3_requireMember [some (.int x0)] [] M) : Co_X3_requirePlace l ad D cI cL (sp_I f) ∧ Cx_X3_requirePlace l ad D cI cL (sp_I f) := by
  refine ⟨k_con2 (tree := fun r => T_X3_requirePlace_0 ad r F_X3_requireMember) hI (by decide +kernel) (fun X res hl hD C E T => S_X3_requirePlace_0 C E T (k_cvOf hl hD h_X3_requireMember) (k_ctOf hl hD hx_X3_requireMember)) (fun As M r hF => by
    unfold sp_I at hF
    split at hF
    · exact ⟨Nat.le_of_ble_eq_true rfl, _, k_inL rfl, hp _ M _ hF⟩
    · cases hF), k_thr (tree := fun r => T_X3_requirePlace_0 ad r F_X3_requireMember) hI hf (by decide +kernel) (fun X res hl hD C E T => S_X3_requirePlace_0 C E T (k_cvOf hl hD h_X3_requireMember) (k_ctOf hl hD hx_X3_requireMember)) (fun As M r hF => by
    unfold sp_I at hF
    split at hF
    · exact ⟨Nat.le_of_ble_eq_true rfl, _, k_inL rfl, hp _ M _ hF⟩
    · cases hF)⟩
theorem con_X3_requireJoinedPlace {l : Launch} {ad : Nat → Nat} {D : va_G} {cI cL : ClassId} {F_X3_requireJoined : Sp} (hI : k_I ad) (hf : l.stackTraces = false) (h_X3_requireJoined : Co_X3_requireJoined l ad D cI cL F_X3_requireJoined) (hx_X3_requireJoined : Cx_X3_requireJoined l ad D cI cL F_X3_requireJoined) {f : Int32 → Mm → Option Rs} (hp : ∀ (x0 : Int32) (M : Mm) (r : Rs), f x0 M = some r → T_X3_requireJoinedPlace_0 ad r F_X3_requireJoined [some (.ref (ad 0)), some (.int x0)] [] M) : Co_X3_requireJoinedPlace l ad D cI cL (sp_I f) ∧ Cx_X3_requireJoinedPlace l ad D cI cL (sp_I f) := by
  refine ⟨k_con2 (tree := fun r => T_X3_requireJoinedPlace_0 ad r F_X3_requireJoined) hI (by decide +kernel) (fun X res hl hD C E T => S_X3_requireJoinedPlace_0 C E T (k_cvOf hl hD h_X3_requireJoined) (k_ctOf hl hD hx_X3_requireJoined)) (fun As M r hF => by
    unfold sp_I at hF
    split at hF
    · exact ⟨Nat.le_of_ble_eq_true rfl, _, k_inL rfl, hp _ M _ hF⟩
    · cases hF), k_thr (tree := fun r => T_X3_requireJoinedPlace_0 ad r F_X3_requireJoined) hI hf (by decide +kernel) (fun X res hl hD C E T => S_X3_requireJoinedPlace_0 C E T (k_cvOf hl hD h_X3_requireJoined) (k_ctOf hl hD hx_X3_requireJoined)) (fun As M r hF => by
    unfold sp_I at hF
    split at hF
    · exact ⟨Nat.le_of_ble_eq_true rfl, _, k_inL rfl, hp _ M _ hF⟩
    · cases hF)⟩
theorem con_X3_child {l : Launch} {ad : Nat → Nat} {D : va_G} {cI cL : ClassId} {F_X1_childAt F_X3_requireJoinedPlace F_X3_requirePlace F_X3_requireStripe : Sp} (hI : k_I ad) (hf : l.stackTraces = false) (h_X1_childAt : Co_X1_childAt l ad D cI cL F_X1_childAt) (h_X3_requireJoinedPlace : Co_X3_requireJoinedPlace l ad D cI cL F_X3_requireJoinedPlace) (h_X3_requirePlace : Co_X3_requirePlace l ad D cI cL F_X3_requirePlace) (h_X3_requireStripe : Co_X3_requireStripe l ad D cI cL F_X3_requireStripe) (hx_X3_requireJoinedPlace : Cx_X3_requireJoinedPlace l ad D cI cL F_X3_requireJoinedPlace) (hx_X3_requirePlace : Cx_X3_requirePlace l ad D cI cL F_X3_requirePlace) (hx_X3_requireStripe : Cx_X3_requireStripe l ad D cI cL F_X3_requireStripe) {f : Int32 → Int32 → Int32 → Mm → Option Rs} (hp : ∀ (x0 : Int32) (x1 : Int32) (x2 : Int32) (M : Mm) (r : Rs), f x0 x1 x2 M = some r → T_X3_child_0 ad r F_X1_childAt F_X3_requireJoinedPlace F_X3_requirePlace F_X3_requireStripe [some (.ref (ad 0)), some (.int x0), some (.int x1), some (.int x2)] [] M) : Co_X3_child l ad D cI cL (sp_III f) ∧ Cx_X3_child l ad D cI cL (sp_III f) := by
  refine ⟨k_con2 (tree := fun r => T_X3_child_0 ad r F_X1_childAt F_X3_requireJoinedPlace F_X3_requirePlace F_X3_requireStripe) hI (by decide +kernel) (fun X res hl hD C E T => S_X3_child_0 C E T (k_cvOf hl hD h_X1_childAt) (k_cvOf hl hD h_X3_requireJoinedPlace) (k_cvOf hl hD h_X3_requirePlace) (k_cvOf hl hD h_X3_requireStripe) (k_ctOf hl hD hx_X3_requireJoinedPlace) (k_ctOf hl hD hx_X3_requirePlace) (k_ctOf hl hD hx_X3_requireStripe)) (fun As M r hF => by
    unfold sp_III at hF
    split at hF
    · exact ⟨Nat.le_of_ble_eq_true rfl, _, k_inL rfl, hp _ _ _ M _ hF⟩
    · cases hF), k_thr (tree := fun r => T_X3_child_0 ad r F_X1_childAt F_X3_requireJoinedPlace F_X3_requirePlace F_X3_requireStripe) hI hf (by decide +kernel) (fun X res hl hD C E T => S_X3_child_0 C E T (k_cvOf hl hD h_X1_childAt) (k_cvOf hl hD h_X3_requireJoinedPlace) (k_cvOf hl hD h_X3_requirePlace) (k_cvOf hl hD h_X3_requireStripe) (k_ctOf hl hD hx_X3_requireJoinedPlace) (k_ctOf hl hD hx_X3_requirePlace) (k_ctOf hl hD hx_X3_requireStripe)) (fun As M r hF => by
    unfold sp_III at hF
    split at hF
    · exact ⟨Nat.le_of_ble_eq_true rfl, _, k_inL rfl, hp _ _ _ M _ hF⟩
    · cases hF)⟩
theorem con_X3_subtree {l : Launch} {ad : Nat → Nat} {D : va_G} {cI cL : ClassId} {F_X1_subtreeSize F_X3_requireJoined F_X3_requireMember F_X3_requireStripe : Sp} (hI : k_I ad) (hf : l.stackTraces = false) (h_X1_subtreeSize : Co_X1_subtreeSize l ad D cI cL F_X1_subtreeSize) (h_X3_requireJoined : Co_X3_requireJoined l ad D cI cL F_X3_requireJoined) (h_X3_requireMember : Co_X3_requireMember l ad D cI cL F_X3_requireMember) (h_X3_requireStripe : Co_X3_requireStripe l ad D cI cL F_X3_requireStripe) (hx_X3_requireJoined : Cx_X3_requireJoined l ad D cI cL F_X3_requireJoined) (hx_X3_requireMember : Cx_X3_requireMember l ad D cI cL F_X3_requireMember) (hx_X3_requireStripe : Cx_X3_requireStripe l ad D cI cL F_X3_requireStripe) {f : Int32 → Int32 → Mm → Option Rs} (hp : ∀ (x0 : Int32) (x1 : Int32) (M : Mm) (r : Rs), f x0 x1 M = some r → T_X3_subtree_0 ad r F_X1_subtreeSize F_X3_requireJoined F_X3_requireMember F_X3_requireStripe [some (.ref (ad 0)), some (.int x0), some (.int x1)] [] M) : Co_X3_subtree l ad D cI cL (sp_II f) ∧ Cx_X3_subtree l ad D cI cL (sp_II f) := by
  refine ⟨k_con2 (tree := fun r => T_X3_subtree_0 ad r F_X1_subtreeSize F_X3_requireJoined F_X3_requireMember F_X3_requireStripe) hI (by decide +kernel) (fun X res hl hD C E T => S_X3_subtree_0 C E T (k_cvOf hl hD h_X1_subtreeSize) (k_cvOf hl hD h_X3_requireJoined) (k_cvOf hl hD h_X3_requireMember) (k_cvOf hl hD h_X3_requireStripe) (k_ctOf hl hD hx_X3_requireJoined) (k_ctOf hl hD hx_X3_requireMember) (k_ctOf hl hD hx_X3_requireStripe)) (fun As M r hF => by
    unfold sp_II at hF
    split at hF
    · exact ⟨Nat.le_of_ble_eq_true rfl, _, k_inL rfl, hp _ _ M _ hF⟩
    · cases hF), k_thr (tree := fun r => T_X3_subtree_0 ad r F_X1_subtreeSize F_X3_requireJoined F_X3_requireMember F_X3_requireStripe) hI hf (by decide +kernel) (fun X res hl hD C E T => S_X3_subtree_0 C E T (k_cvOf hl hD h_X1_subtreeSize) (k_cvOf hl hD h_X3_requireJoined) (k_cvOf hl hD h_X3_requireMember) (k_cvOf hl hD h_X3_requireStripe) (k_ctOf hl hD hx_X3_requireJoined) (k_ctOf hl hD hx_X3_requireMember) (k_ctOf hl hD hx_X3_requireStripe)) (fun As M r hF => by
    unfold sp_II at hF
    split at hF
    · exact ⟨Nat.le_of_ble_eq_true rfl, _, k_inL rfl, hp _ _ M _ hF⟩
    · cases hF)⟩
theorem con_X3_hasRoom {l : Launch} {ad : Nat → Nat} {D : va_G} {cI cL : ClassId} {F_X1_isRoomAt F_X3_requireJoinedPlace F_X3_requirePlace F_X3_requireStripe : Sp} (hI : k_I ad) (hf : l.stackTraces = false) (h_X1_isRoomAt : Co_X1_isRoomAt l ad D cI cL F_X1_isRoomAt) (h_X3_requireJoinedPlace : Co_X3_requireJoinedPlace l ad D cI cL F_X3_requireJoinedPlace) (h_X3_requirePlace : Co_X3_requirePlace l ad D cI cL F_X3_requirePlace) (h_X3_requireStripe : Co_X3_requireStripe l ad D cI cL F_X3_requireStripe) (hx_X3_requireJoinedPlace : Cx_X3_requireJoinedPlace l ad D cI cL F_X3_requireJoinedPlace) (hx_X3_requirePlace : Cx_X3_requirePlace l ad D cI cL F_X3_requirePlace) (hx_X3_requireStripe : Cx_X3_requireStripe l ad D cI cL F_X3_requireStripe) {f : Int32 → Int32 → Mm → Option Rs} (hp : ∀ (x0 : Int32) (x1 : Int32) (M : Mm) (r : Rs), f x0 x1 M = some r → T_X3_hasRoom_0 ad r F_X1_isRoomAt F_X3_requireJoinedPlace F_X3_requirePlace F_X3_requireStripe [some (.ref (ad 0)), some (.int x0), some (.int x1)] [] M) : Co_X3_hasRoom l ad D cI cL (sp_II f) ∧ Cx_X3_hasRoom l ad D cI cL (sp_II f) := by
  refine ⟨k_con2 (tree := fun r => T_X3_hasRoom_0 ad r F_X1_isRoomAt F_X3_requireJoinedPlace F_X3_requirePlace F_X3_requireStripe) hI (by decide +kernel) (fun X res hl hD C E T => S_X3_hasRoom_0 C E T (k_cvOf hl hD h_X1_isRoomAt) (k_cvOf hl hD h_X3_requireJoinedPlace) (k_cvOf hl hD h_X3_requirePlace) (k_cvOf hl hD h_X3_requireStripe) (k_ctOf hl hD hx_X3_requireJoinedPlace) (k_ctOf hl hD hx_X3_requirePlace) (k_ctOf hl hD hx_X3_requireStripe)) (fun As M r hF => by
    unfold sp_II at hF
    split at hF
    · exact ⟨Nat.le_of_ble_eq_true rfl, _, k_inL rfl, hp _ _ M _ hF⟩
    · cases hF), k_thr (tree := fun r => T_X3_hasRoom_0 ad r F_X1_isRoomAt F_X3_requireJoinedPlace F_X3_requirePlace F_X3_requireStripe) hI hf (by decide +kernel) (fun X res hl hD C E T => S_X3_hasRoom_0 C E T (k_cvOf hl hD h_X1_isRoomAt) (k_cvOf hl hD h_X3_requireJoinedPlace) (k_cvOf hl hD h_X3_requirePlace) (k_cvOf hl hD h_X3_requireStripe) (k_ctOf hl hD hx_X3_requireJoinedPlace) (k_ctOf hl hD hx_X3_requirePlace) (k_ctOf hl hD hx_X3_requireStripe)) (fun As M r hF => by
    unfold sp_II at hF
    split at hF
    · exact ⟨Nat.le_of_ble_eq_true rfl, _, k_inL rfl, hp _ _ M _ hF⟩
    · cases hF)⟩
theorem con_X3_ranksBefore {l : Launch} {ad : Nat → Nat} {D : va_G} {cI cL : ClassId} {F_X1_isBefore F_X3_requireJoined F_X3_requireMember F_X3_requireStripe : Sp} (hI : k_I ad) (hf : l.stackTraces = false) (h_X1_isBefore : Co_X1_isBefore l ad D cI cL F_X1_isBefore) (h_X3_requireJoined : Co_X3_requireJoined l ad D cI cL F_X3_requireJoined) (h_X3_requireMember : Co_X3_requireMember l ad D cI cL F_X3_requireMember) (h_X3_requireStripe : Co_X3_requireStripe l ad D cI cL F_X3_requireStripe) (hx_X3_requireJoined : Cx_X3_requireJoined l ad D cI cL F_X3_requireJoined) (hx_X3_requireMember : Cx_X3_requireMember l ad D cI cL F_X3_requireMember) (hx_X3_requireStripe : Cx_X3_requireStripe l ad D cI cL F_X3_requireStripe) {f : Int32 → Int32 → Int32 → Mm → Option Rs} (hp : ∀ (x0 : Int32) (x1 : Int32) (x2 : Int32) (M : Mm) (r : Rs), f x0 x1 x2 M = some r → T_X3_ranksBefore_0 ad r F_X1_isBefore F_X3_requireJoined F_X3_requireMember F_X3_requireStripe [some (.ref (ad 0)), some (.int x0), some (.int x1), some (.int x2)] [] M) : Co_X3_ranksBefore l ad D cI cL (sp_III f) ∧ Cx_X3_ranksBefore l ad D cI cL (sp_III f) := by
  refine ⟨k_con2 (tree := fun r => T_X3_ranksBefore_0 ad r F_X1_isBefore F_X3_requireJoined F_X3_requireMember F_X3_requireStripe) hI (by decide +kernel) (fun X res hl hD C E T => S_X3_ranksBefore_0 C E T (k_cvOf hl hD h_X1_isBefore) (k_cvOf hl hD h_X3_requireJoined) (k_cvOf hl hD h_X3_requireMember) (k_cvOf hl hD h_X3_requireStripe) (k_ctOf hl hD hx_X3_requireJoined) (k_ctOf hl hD hx_X3_requireMember) (k_ctOf hl hD hx_X3_requireStripe)) (fun As M r hF => by
    unfold sp_III at hF
    split at hF
    · exact ⟨Nat.le_of_ble_eq_true rfl, _, k_inL rfl, hp _ _ _ M _ hF⟩
    · cases hF), k_thr (tree := fun r => T_X3_ranksBefore_0 ad r F_X1_isBefore F_X3_requireJoined F_X3_requireMember F_X3_requireStripe) hI hf (by decide +kernel) (fun X res hl hD C E T => S_X3_ranksBefore_0 C E T (k_cvOf hl hD h_X1_isBefore) (k_cvOf hl hD h_X3_requireJoined) (k_cvOf hl hD h_X3_requireMember) (k_cvOf hl hD h_X3_requireStripe) (k_ctOf hl hD hx_X3_requireJoined) (k_ctOf hl hD hx_X3_requireMember) (k_ctOf hl hD hx_X3_requireStripe)) (fun As M r hF => by
    unfold sp_III at hF
    split at hF
    · exact ⟨Nat.le_of_ble_eq_true rfl, _, k_inL rfl, hp _ _ _ M _ hF⟩
    · cases hF)⟩
theorem con_X3_harm {l : Launch} {ad : Nat → Nat} {D : va_G} {cI cL : ClassId} {F_X0_value F_X1_getsPiece F_X1_isUnder F_X3_requireJoined F_X3_requireMember : Sp} (hI : k_I ad) (hf : l.stackTraces = false) (h_X0_value : Co_X0_value l ad D cI cL F_X0_value) (h_X1_getsPiece : Co_X1_getsPiece l ad D cI cL F_X1_getsPiece) (h_X1_isUnder : Co_X1_isUnder l ad D cI cL F_X1_isUnder) (h_X3_requireJoined : Co_X3_requireJoined l ad D cI cL F_X3_requireJoined) (h_X3_requireMember : Co_X3_requireMember l ad D cI cL F_X3_requireMember) (hx_X3_requireJoined : Cx_X3_requireJoined l ad D cI cL F_X3_requireJoined) (hx_X3_requireMember : Cx_X3_requireMember l ad D cI cL F_X3_requireMember) {f : Int32 → Mm → Option Rs} (hp : ∀ (x0 : Int32) (M : Mm) (r : Rs), f x0 M = some r → T_X3_harm_0 ad r F_X0_value F_X1_getsPiece F_X1_isUnder F_X3_requireJoined F_X3_requireMember [some (.ref (ad 0)), some (.int x0), none, none, none] [] M) : Co_X3_harm l ad D cI cL (sp_I f) ∧ Cx_X3_harm l ad D cI cL (sp_I f) := by
  refine ⟨k_con2 (tree := fun r => T_X3_harm_0 ad r F_X0_value F_X1_getsPiece F_X1_isUnder F_X3_requireJoined F_X3_requireMember) hI (by decide +kernel) (fun X res hl hD C E T => S_X3_harm_0 C E T (k_cvOf hl hD h_X0_value) (k_cvOf hl hD h_X1_getsPiece) (k_cvOf hl hD h_X1_isUnder) (k_cvOf hl hD h_X3_requireJoined) (k_cvOf hl hD h_X3_requireMember) (k_ctOf hl hD hx_X3_requireJoined) (k_ctOf hl hD hx_X3_requireMember)) (fun As M r hF => by
    unfold sp_I at hF
    split at hF
    · exact ⟨Nat.le_of_ble_eq_true rfl, _, k_inL rfl, hp _ M _ hF⟩
    · cases hF), k_thr (tree := fun r => T_X3_harm_0 ad r F_X0_value F_X1_getsPiece F_X1_isUnder F_X3_requireJoined F_X3_requireMember) hI hf (by decide +kernel) (fun X res hl hD C E T => S_X3_harm_0 C E T (k_cvOf hl hD h_X0_value) (k_cvOf hl hD h_X1_getsPiece) (k_cvOf hl hD h_X1_isUnder) (k_cvOf hl hD h_X3_requireJoined) (k_cvOf hl hD h_X3_requireMember) (k_ctOf hl hD hx_X3_requireJoined) (k_ctOf hl hD hx_X3_requireMember)) (fun As M r hF => by
    unfold sp_I at hF
    split at hF
    · exact ⟨Nat.le_of_ble_eq_true rfl, _, k_inL rfl, hp _ M _ hF⟩
    · cases hF)⟩
theorem con_X3_pieces {l : Launch} {ad : Nat → Nat} {D : va_G} {cI cL : ClassId} {F_X1_piecesOf F_X3_requireJoined F_X3_requireMember : Sp} (hI : k_I ad) (hf : l.stackTraces = false) (h_X1_piecesOf : Co_X1_piecesOf l ad D cI cL F_X1_piecesOf) (h_X3_requireJoined : Co_X3_requireJoined l ad D cI cL F_X3_requireJoined) (h_X3_requireMember : Co_X3_requireMember l ad D cI cL F_X3_requireMember) (hx_X3_requireJoined : Cx_X3_requireJoined l ad D cI cL F_X3_requireJoined) (hx_X3_requireMember : Cx_X3_requireMember l ad D cI cL F_X3_requireMember) {f : Int32 → Mm → Option Rs} (hp : ∀ (x0 : Int32) (M : Mm) (r : Rs), f x0 M = some r → T_X3_pieces_0 ad r F_X1_piecesOf F_X3_requireJoined F_X3_requireMember [some (.ref (ad 0)), some (.int x0)] [] M) : Co_X3_pieces l ad D cI cL (sp_I f) ∧ Cx_X3_pieces l ad D cI cL (sp_I f) := by
  refine ⟨k_con2 (tree := fun r => T_X3_pieces_0 ad r F_X1_piecesOf F_X3_requireJoined F_X3_requireMember) hI (by decide +kernel) (fun X res hl hD C E T => S_X3_pieces_0 C E T (k_cvOf hl hD h_X1_piecesOf) (k_cvOf hl hD h_X3_requireJoined) (k_cvOf hl hD h_X3_requireMember) (k_ctOf hl hD hx_X3_requireJoined) (k_ctOf hl hD hx_X3_requireMember)) (fun As M r hF => by
    unfold sp_I at hF
    split at hF
    · exact ⟨Nat.le_of_ble_eq_true rfl, _, k_inL rfl, hp _ M _ hF⟩
    · cases hF), k_thr (tree := fun r => T_X3_pieces_0 ad r F_X1_piecesOf F_X3_requireJoined F_X3_requireMember) hI hf (by decide +kernel) (fun X res hl hD C E T => S_X3_pieces_0 C E T (k_cvOf hl hD h_X1_piecesOf) (k_cvOf hl hD h_X3_requireJoined) (k_cvOf hl hD h_X3_requireMember) (k_ctOf hl hD hx_X3_requireJoined) (k_ctOf hl hD hx_X3_requireMember)) (fun As M r hF => by
    unfold sp_I at hF
    split at hF
    · exact ⟨Nat.le_of_ble_eq_true rfl, _, k_inL rfl, hp _ M _ hF⟩
    · cases hF)⟩
theorem con_X3_stripe {l : Launch} {ad : Nat → Nat} {D : va_G} {cI cL : ClassId} {F_X1_childrenAt F_X1_connected F_X1_greatestDepth F_X1_orphans F_X1_withChildren F_X1_withRoom F_X3_requireRange F_X3_requireStripe : Sp} (hI : k_I ad) (hf : l.stackTraces = false) (h_X1_childrenAt : Co_X1_childrenAt l ad D cI cL F_X1_childrenAt) (h_X1_connected : Co_X1_connected l ad D cI cL F_X1_connected) (h_X1_greatestDepth : Co_X1_greatestDepth l ad D cI cL F_X1_greatestDepth) (h_X1_orphans : Co_X1_orphans l ad D cI cL F_X1_orphans) (h_X1_withChildren : Co_X1_withChildren l ad D cI cL F_X1_withChildren) (h_X1_withRoom : Co_X1_withRoom l ad D cI cL F_X1_withRoom) (h_X3_requireRange : Co_X3_requireRange l ad D cI cL F_X3_requireRange) (h_X3_requireStripe : Co_X3_requireStripe l ad D cI cL F_X3_requireStripe) (hx_X3_requireRange : Cx_X3_requireRange l ad D cI cL F_X3_requireRange) (hx_X3_requireStripe : Cx_X3_requireStripe l ad D cI cL F_X3_requireStripe) {f : Int32 → Int32 → Mm → Option Rs} (hp : ∀ (x0 : Int32) (x1 : Int32) (M : Mm) (r : Rs), f x0 x1 M = some r → T_X3_stripe_0 ad r F_X1_childrenAt F_X1_connected F_X1_greatestDepth F_X1_orphans F_X1_withChildren F_X1_withRoom F_X3_requireRange F_X3_requireStripe [some (.ref (ad 0)), some (.int x0), some (.int x1)] [] M) : Co_X3_stripe l ad D cI cL (sp_II f) ∧ Cx_X3_stripe l ad D cI cL (sp_II f) := by
  refine ⟨k_con2 (tree := fun r => T_X3_stripe_0 ad r F_X1_childrenAt F_X1_connected F_X1_greatestDepth F_X1_orphans F_X1_withChildren F_X1_withRoom F_X3_requireRange F_X3_requireStripe) hI (by decide +kernel) (fun X res hl hD C E T => S_X3_stripe_0 C E T (k_cvOf hl hD h_X1_childrenAt) (k_cvOf hl hD h_X1_connected) (k_cvOf hl hD h_X1_greatestDepth) (k_cvOf hl hD h_X1_orphans) (k_cvOf hl hD h_X1_withChildren) (k_cvOf hl hD h_X1_withRoom) (k_cvOf hl hD h_X3_requireRange) (k_cvOf hl hD h_X3_requireStripe) (k_ctOf hl hD hx_X3_requireRange) (k_ctOf hl hD hx_X3_requireStripe)) (fun As M r hF => by
    unfold sp_II at hF
    split at hF
    · exact ⟨Nat.le_of_ble_eq_true rfl, _, k_inL rfl, hp _ _ M _ hF⟩
    · cases hF), k_thr (tree := fun r => T_X3_stripe_0 ad r F_X1_childrenAt F_X1_connected F_X1_greatestDepth F_X1_orphans F_X1_withChildren F_X1_withRoom F_X3_requireRange F_X3_requireStripe) hI hf (by decide +kernel) (fun X res hl hD C E T => S_X3_stripe_0 C E T (k_cvOf hl hD h_X1_childrenAt) (k_cvOf hl hD h_X1_connected) (k_cvOf hl hD h_X1_greatestDepth) (k_cvOf hl hD h_X1_orphans) (k_cvOf hl hD h_X1_withChildren) (k_cvOf hl hD h_X1_withRoom) (k_cvOf hl hD h_X3_requireRange) (k_cvOf hl hD h_X3_requireStripe) (k_ctOf hl hD hx_X3_requireRange) (k_ctOf hl hD hx_X3_requireStripe)) (fun As M r hF => by
    unfold sp_II at hF
    split at hF
    · exact ⟨Nat.le_of_ble_eq_true rfl, _, k_inL rfl, hp _ _ M _ hF⟩
    · cases hF)⟩
theorem con_X3_count {l : Launch} {ad : Nat → Nat} {D : va_G} {cI cL : ClassId} {F_X0_figure F_X3_requireRange : Sp} (hI : k_I ad) (hf : l.stackTraces = false) (h_X0_figure : Co_X0_figure l ad D cI cL F_X0_figure) (h_X3_requireRange : Co_X3_requireRange l ad D cI cL F_X3_requireRange) (hx_X3_requireRange : Cx_X3_requireRange l ad D cI cL F_X3_requireRange) {f : Int32 → Mm → Option Rs} (hp : ∀ (x0 : Int32) (M : Mm) (r : Rs), f x0 M = some r → T_X3_count_0 ad r F_X0_figure F_X3_requireRange [some (.ref (ad 0)), some (.int x0)] [] M) : Co_X3_count l ad D cI cL (sp_I f) ∧ Cx_X3_count l ad D cI cL (sp_I f) := by
  refine ⟨k_con2 (tree := fun r => T_X3_count_0 ad r F_X0_figure F_X3_requireRange) hI (by decide +kernel) (fun X res hl hD C E T => S_X3_count_0 C E T (k_cvOf hl hD h_X0_figure) (k_cvOf hl hD h_X3_requireRange) (k_ctOf hl hD hx_X3_requireRange)) (fun As M r hF => by
    unfold sp_I at hF
    split at hF
    · exact ⟨Nat.le_of_ble_eq_true rfl, _, k_inL rfl, hp _ M _ hF⟩
    · cases hF), k_thr (tree := fun r => T_X3_count_0 ad r F_X0_figure F_X3_requireRange) hI hf (by decide +kernel) (fun X res hl hD C E T => S_X3_count_0 C E T (k_cvOf hl hD h_X0_figure) (k_cvOf hl hD h_X3_requireRange) (k_ctOf hl hD hx_X3_requireRange)) (fun As M r hF => by
    unfold sp_I at hF
    split at hF
    · exact ⟨Nat.le_of_ble_eq_true rfl, _, k_inL rfl, hp _ M _ hF⟩
    · cases hF)⟩
theorem con_X3_undo {l : Launch} {ad : Nat → Nat} {D : va_G} {cI cL : ClassId} {F_X2_popInto F_X2_size : Sp} (hI : k_I ad) (hf : l.stackTraces = false) (h_X2_popInto : Co_X2_popInto l ad D cI cL F_X2_popInto) (h_X2_size : Co_X2_size l ad D cI cL F_X2_size) {f : Mm → Option Rs} (hp : ∀ (M : Mm) (r : Rs), f M = some r → T_X3_undo_0 ad r F_X2_popInto F_X2_size [some (.ref (ad 0))] [] M) : Co_X3_undo l ad D cI cL (sp_V f) ∧ Cx_X3_undo l ad D cI cL (sp_V f) := by
  refine ⟨k_con2 (tree := fun r => T_X3_undo_0 ad r F_X2_popInto F_X2_size) hI (by decide +kernel) (fun X res hl hD C E T => S_X3_undo_0 C E T (k_cvOf hl hD h_X2_popInto) (k_cvOf hl hD h_X2_size)) (fun As M r hF => by
    unfold sp_V at hF
    split at hF
    · exact ⟨Nat.le_of_ble_eq_true rfl, _, k_inL rfl, hp M _ hF⟩
    · cases hF), k_thr (tree := fun r => T_X3_undo_0 ad r F_X2_popInto F_X2_size) hI hf (by decide +kernel) (fun X res hl hD C E T => S_X3_undo_0 C E T (k_cvOf hl hD h_X2_popInto) (k_cvOf hl hD h_X2_size)) (fun As M r hF => by
    unfold sp_V at hF
    split at hF
    · exact ⟨Nat.le_of_ble_eq_true rfl, _, k_inL rfl, hp M _ hF⟩
    · cases hF)⟩
theorem con_X3_mixed {l : Launch} {ad : Nat → Nat} {D : va_G} {cI cL : ClassId} (hI : k_I ad) {f : Int64 → Int64 → Mm → Option Rs} (hp : ∀ (x0 : Int64) (x1 : Int64) (M : Mm) (r : Rs), f x0 x1 M = some r → T_X3_mixed_0 ad r [some (.long x0), none, some (.long x1), none] [] M) : Co_X3_mixed l ad D cI cL (sp_JJ f) := by
  exact k_con (tree := fun r => T_X3_mixed_0 ad r) hI (plainFor_of_name (by decide +kernel)) (fun X res hl hD C E => S_X3_mixed_0 C E) (fun As M r hF => by
    unfold sp_JJ at hF
    split at hF
    · exact ⟨Nat.le_of_ble_eq_true rfl, _, k_inL rfl, hp _ _ M _ hF⟩
    · cases hF)
theorem con_X3_mixedWithMember {l : Launch} {ad : Nat → Nat} {D : va_G} {cI cL : ClassId} {F_X0_parentOf F_X0_value F_X1_depthOf F_X1_isRoomAt F_X1_piecesOf F_X1_subtreeSize F_X3_harm F_X3_isJoined F_X3_mixed : Sp} (hI : k_I ad) (h_X0_parentOf : Co_X0_parentOf l ad D cI cL F_X0_parentOf) (h_X0_value : Co_X0_value l ad D cI cL F_X0_value) (h_X1_depthOf : Co_X1_depthOf l ad D cI cL F_X1_depthOf) (h_X1_isRoomAt : Co_X1_isRoomAt l ad D cI cL F_X1_isRoomAt) (h_X1_piecesOf : Co_X1_piecesOf l ad D cI cL F_X1_piecesOf) (h_X1_subtreeSize : Co_X1_subtreeSize l ad D cI cL F_X1_subtreeSize) (h_X3_harm : Co_X3_harm l ad D cI cL F_X3_harm) (h_X3_isJoined : Co_X3_isJoined l ad D cI cL F_X3_isJoined) (h_X3_mixed : Co_X3_mixed l ad D cI cL F_X3_mixed) {f : Int64 → Int32 → Mm → Option Rs} (hp : ∀ (x0 : Int64) (x1 : Int32) (M : Mm) (r : Rs), f x0 x1 M = some r → T_X3_mixedWithMember_0 ad r F_X0_parentOf F_X0_value F_X1_depthOf F_X1_isRoomAt F_X1_piecesOf F_X1_subtreeSize F_X3_harm F_X3_isJoined F_X3_mixed [some (.ref (ad 0)), some (.long x0), none, some (.int x1), none, none, none] [] M) : Co_X3_mixedWithMember l ad D cI cL (sp_JI f) := by
  exact k_con (tree := fun r => T_X3_mixedWithMember_0 ad r F_X0_parentOf F_X0_value F_X1_depthOf F_X1_isRoomAt F_X1_piecesOf F_X1_subtreeSize F_X3_harm F_X3_isJoined F_X3_mixed) hI (plainFor_of_name (by decide +kernel)) (fun X res hl hD C E => S_X3_mixedWithMember_0 C E (k_cvOf hl hD h_X0_parentOf) (k_cvOf hl hD h_X0_value) (k_cvOf hl hD h_X1_depthOf) (k_cvOf hl hD h_X1_isRoomAt) (k_cvOf hl hD h_X1_piecesOf) (k_cvOf hl hD h_X1_subtreeSize) (k_cvOf hl hD h_X3_harm) (k_cvOf hl hD h_X3_isJoined) (k_cvOf hl hD h_X3_mixed)) (fun As M r hF => by
    unfold sp_JI at hF
    split at hF
    · exact ⟨Nat.le_of_ble_eq_true rfl, _, k_inL rfl, hp _ _ M _ hF⟩
    · cases hF)
theorem con_X3_digest {l : Launch} {ad : Nat → Nat} {D : va_G} {cI cL : ClassId} {F_X0_figure F_X2_size F_X3_mixed F_X3_mixedWithMember F_X3_stripe : Sp} (hI : k_I ad) (h_X0_figure : Co_X0_figure l ad D cI cL F_X0_figure) (h_X2_size : Co_X2_size l ad D cI cL F_X2_size) (h_X3_mixed : Co_X3_mixed l ad D cI cL F_X3_mixed) (h_X3_mixedWithMember : Co_X3_mixedWithMember l ad D cI cL F_X3_mixedWithMember) (h_X3_stripe : Co_X3_stripe l ad D cI cL F_X3_stripe) {f : Mm → Option Rs} (hp : ∀ (M : Mm) (r : Rs), f M = some r → T_X3_digest_0 ad r F_X0_figure F_X2_size F_X3_mixed F_X3_mixedWithMember F_X3_stripe [some (.ref (ad 0)), none, none, none, none] [] M) : Co_X3_digest l ad D cI cL (sp_V f) := by
  exact k_con (tree := fun r => T_X3_digest_0 ad r F_X0_figure F_X2_size F_X3_mixed F_X3_mixedWithMember F_X3_stripe) hI (plainFor_of_name (by decide +kernel)) (fun X res hl hD C E => S_X3_digest_0 C E (k_cvOf hl hD h_X0_figure) (k_cvOf hl hD h_X2_size) (k_cvOf hl hD h_X3_mixed) (k_cvOf hl hD h_X3_mixedWithMember) (k_cvOf hl hD h_X3_stripe)) (fun As M r hF => by
    unfold sp_V at hF
    split at hF
    · exact ⟨Nat.le_of_ble_eq_true rfl, _, k_inL rfl, hp M _ hF⟩
    · cases hF)

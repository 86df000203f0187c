/-! the constructors -/
abbrev cl_0 : ClS := (0, fun _ => 0, fun _ => 0, fun _ => 0, fun _ => 0, fun _ => 0, fun _ => 0, fun _ => 0, 0)
abbrev fo_0 : FoS := (fun _ => 0, fun _ => 0, fun _ => 0, 0, 0, fun _ => 0, fun _ => 0)
abbrev pa_0 : PaS := (fun _ => 0, fun _ => 0, 0)
abbrev te_0 : TeS := (fun _ => 0, fun _ => 0, 0, fun _ => 0, fun _ => 0)
abbrev sa_0 : SaS := (0, 0, 0, 0, 0, 0)
abbrev mo_0 : MoS := (0, fun _ => 0, fun _ => 0, 0, fun _ => 0, fun _ => 0, 0, fun _ => 0, fun _ => 0, fun _ => 0, fun _ => 0, fun _ => 0, 0)

theorem ty_same {D : va_G} {cl : List vw_C} {U : State} {cI cZ cA : ClassId} (h : va_K D cl ([(cI, .int), (cZ, .boolean)] ++ [(cA, .int)]) U) : cI = cA := by
  have h1 : U.vm.findClass ("[" ++ FieldType.int.toString) = some cI := (h.2 0 _ rfl).2
  have h2 : U.vm.findClass ("[" ++ FieldType.int.toString) = some cA := (h.2 2 _ rfl).2
  exact Option.some.inj (h1.symm.trans h2)
theorem ty_sameZ {D : va_G} {cl : List vw_C} {U : State} {cI cZ cA : ClassId} (h : va_K D cl ([(cI, .int), (cZ, .boolean)] ++ [(cA, .boolean)]) U) : cZ = cA := by
  have h1 : U.vm.findClass ("[" ++ FieldType.boolean.toString) = some cZ := (h.2 1 _ rfl).2
  have h2 : U.vm.findClass ("[" ++ FieldType.boolean.toString) = some cA := (h.2 2 _ rfl).2
  exact Option.some.inj (h1.symm.trans h2)

set_option maxHeartbeats 4000000 in
set_option maxRecDepth 100000 in
theorem c_X0_init (l : Launch) (dC : Nat → ClassId) (dI : Nat → Nat → Nat) (cI cZ : ClassId) (sz h_C : Nat) : Met l yX0_init wsX0_init ({ frames := 1, cells := 7, slots := 1876, locals := 12 }) (va_Pc [.ref h_C] (fun U => U.heap.size = sz ∧ va_P (dC, dI) vwCl [(h_C, .inr (0, [.int 0, .null, .null, .null, .null, .null, .null, .null, .int 0]))] U.heap ∧ va_K (dC, dI) vwCl [(cI, .int), (cZ, .boolean)] U ∧ va_D (fun _ => True) [(h_C, .inr (0, [.int 0, .null, .null, .null, .null, .null, .null, .null, .int 0]))])) (va_Qv (fun (u : Unit) => True) (fun (u : Unit) (t : State) => ∃ a_C_one a_C_other a_C_bucket a_C_nextInBucket a_C_sign a_C_stands a_C_loose : Nat, va_P (dC, dI) vwCl [(h_C, .inr (0, [.int (cl_expected cl_0), .ref a_C_one, .ref a_C_other, .ref a_C_bucket, .ref a_C_nextInBucket, .ref a_C_sign, .ref a_C_stands, .ref a_C_loose, .int (cl_looseTotal cl_0)])), (a_C_one, .inl (cI, 310, .inl (cl_one cl_0))), (a_C_other, .inl (cI, 310, .inl (cl_other cl_0))), (a_C_bucket, .inl (cI, 256, .inl (cl_bucket cl_0))), (a_C_nextInBucket, .inl (cI, 250, .inl (cl_nextInBucket cl_0))), (a_C_sign, .inl (cI, 250, .inl (cl_sign cl_0))), (a_C_stands, .inl (cZ, 250, .inl (cl_stands cl_0))), (a_C_loose, .inl (cI, 250, .inl (cl_loose cl_0)))] t.heap ∧ va_K (dC, dI) vwCl [(cI, .int), (cZ, .boolean)] t ∧ va_D (va_A [(h_C, .inr (0, [.int 0, .null, .null, .null, .null, .null, .null, .null, .int 0]))] sz) [(h_C, .inr (0, [.int (cl_expected cl_0), .ref a_C_one, .ref a_C_other, .ref a_C_bucket, .ref a_C_nextInBucket, .ref a_C_sign, .ref a_C_stands, .ref a_C_loose, .int (cl_looseTotal cl_0)])), (a_C_one, .inl (cI, 310, .inl (cl_one cl_0))), (a_C_other, .inl (cI, 310, .inl (cl_other cl_0))), (a_C_bucket, .inl (cI, 256, .inl (cl_bucket cl_0))), (a_C_nextInBucket, .inl (cI, 250, .inl (cl_nextInBucket cl_0))), (a_C_sign, .inl (cI, 250, .inl (cl_sign cl_0))), (a_C_stands, .inl (cZ, 250, .inl (cl_stands cl_0))), (a_C_loose, .inl (cI, 250, .inl (cl_loose cl_0)))]) (va_A [(h_C, .inr (0, [.int 0, .null, .null, .null, .null, .null, .null, .null, .int 0]))] sz)) 7 1876 (va_A [(h_C, .inr (0, [.int 0, .null, .null, .null, .null, .null, .null, .null, .int 0]))] sz) := by
  refine Met.ofW (cc := cX0_init) (maxL := 1) (ret := none) (by decide) rfl ?_
  intro p e s m args below meth c s₁ B hml hv
  obtain ⟨rfl, hsz, hP, hK, hD0⟩ := hv
  have hx := B.exec
  have hb := B.bytes
  have hr := B.returns
  have hts := atoms_spec (ws := wsX0_init) B.pre
  have hown : s.vm.findClass RX0 = some m.cls := findClass_of_methodNamed B.named
  have hlocks := B.notSynchronized
  have hin : meth.name = "<init>" := (name_of_methodNamed B.named B.method).1
  subst hsz
  have hD := hD0.self (sz := s.heap.size)
  generalize hAe : va_A [(h_C, .inr (0, [.int 0, .null, .null, .null, .null, .null, .null, .null, .int 0]))] s.heap.size = A at hD ⊢
  have hA : ∀ q : Nat, s.heap.size ≤ q → A q := fun q h => by rw [← hAe]; exact Or.inr h
  have hS : va_S A s.heap s.heap [] := va_S.rf
  have hP : va_P (dC, dI) vwCl [(h_C, .inr (0, [.int 0, .null, .null, .null, .null, .null, .null, .null, .int 0]))] s.heap := hP
  have hl := lv_entry ([.ref h_C]) (n := 1) (Nat.le_of_ble_eq_true rfl)
  rw [lg_entry_eq]
  generalize (lg_sl ([.ref h_C]) ++ List.replicate (1 - (lg_sl ([.ref h_C])).length) Slot.unset).toArray = ls at hl ⊢
  have hl : lv_has ls 1 [(0, .ref h_C)] := hl
  have in_X0 : ∀ w ∈ wsX00, w ∈ wsX0_init := by decide +kernel
  refine lv_aload_n hx hb dX0_init_0 rfl (lv_at hl 0 rfl) ?_
  refine W.objInit hx hb hown (hts (.methodLink RX0 3 objectInit) (by decide +kernel)) (hts (.instanceMethod objectInit) (by decide +kernel)) (hts _ (List.mem_of_getElem? (i := 3) rfl)) rfl (by rw [hml]; exact hl.1) rfl dX0_init_1 (Nat.le_of_ble_eq_true rfl) (Nat.le_of_ble_eq_true rfl) ?_
  refine W.eq (g2 := F0 m 4 ls []) rfl ?_
  refine lv_aload_n hx hb dX0_init_4 rfl (lv_at hl 0 rfl) ?_
  refine lv_sipush (v := (310 : Int32)) hx hb dX0_init_5 (by decide) ?_
  refine va_newa (atype := .int) (ty := .int) (N' := 310) (a0 := (310, .inl (fun _ => 0))) hx hb (hts (.arrayClass .int) (by decide +kernel)) rfl hK hP hD hS hA (fun _ => rfl) (by decide) (by decide) (by decide) (Nat.le_of_ble_eq_true rfl) (Nat.le_of_ble_eq_true rfl) dX0_init_8 (fun q_8 cA H hK hP hD hS => ?_)
  obtain rfl : cI = cA := ty_same hK
  have hK := hK.sub (tys' := [(cI, .int), (cZ, .boolean)]) [0, 1] rfl
  have hP : va_P (dC, dI) vwCl [(h_C, .inr (0, [.int 0, .null, .null, .null, .null, .null, .null, .null, .int 0])), (q_8, .inl (cI, 310, .inl (fun _ => 0)))] H := hP
  have hD : va_D A [(h_C, .inr (0, [.int 0, .null, .null, .null, .null, .null, .null, .null, .int 0])), (q_8, .inl (cI, 310, .inl (fun _ => 0)))] := hD
  refine W.widen (k := 1) (n := 310) (Nat.le_refl _) (Nat.le_refl _) ?_
  refine va_putF (D := (dC, dI)) (ci := 0) (v := .ref q_8) (ty := .array .int) (C := RX0) (T := TX0) (N := 9) hx hb hts in_X0 tyX0 tyX0_ok nmX0 hown hK hP hD hS 0 rfl rfl 1 (by decide) (hts (.fieldLink RX0 9 "SameTerms$Closure" "one" "[I") (by decide +kernel)) (fun _ h9 => h9) rfl hin rfl (by decide +kernel) rfl rfl (Nat.le_of_ble_eq_true rfl) dX0_init_10 (fun H locs hP hD hS => ?_)
  have hP : va_P (dC, dI) vwCl [(h_C, .inr (0, [.int 0, .ref q_8, .null, .null, .null, .null, .null, .null, .int 0])), (q_8, .inl (cI, 310, .inl (fun _ => 0)))] H := hP
  have hD : va_D A [(h_C, .inr (0, [.int 0, .ref q_8, .null, .null, .null, .null, .null, .null, .int 0])), (q_8, .inl (cI, 310, .inl (fun _ => 0)))] := hD
  refine lv_aload_n hx hb dX0_init_13 rfl (lv_at hl 0 rfl) ?_
  refine lv_sipush (v := (310 : Int32)) hx hb dX0_init_14 (by decide) ?_
  refine va_newa (atype := .int) (ty := .int) (N' := 310) (a0 := (310, .inl (fun _ => 0))) hx hb (hts (.arrayClass .int) (by decide +kernel)) rfl hK hP hD hS hA (fun _ => rfl) (by decide) (by decide) (by decide) (Nat.le_of_ble_eq_true rfl) (Nat.le_of_ble_eq_true rfl) dX0_init_17 (fun q_17 cA H hK hP hD hS => ?_)
  obtain rfl : cI = cA := ty_same hK
  have hK := hK.sub (tys' := [(cI, .int), (cZ, .boolean)]) [0, 1] rfl
  have hP : va_P (dC, dI) vwCl [(h_C, .inr (0, [.int 0, .ref q_8, .null, .null, .null, .null, .null, .null, .int 0])), (q_8, .inl (cI, 310, .inl (fun _ => 0))), (q_17, .inl (cI, 310, .inl (fun _ => 0)))] H := hP
  have hD : va_D A [(h_C, .inr (0, [.int 0, .ref q_8, .null, .null, .null, .null, .null, .null, .int 0])), (q_8, .inl (cI, 310, .inl (fun _ => 0))), (q_17, .inl (cI, 310, .inl (fun _ => 0)))] := hD
  refine W.widen (k := 2) (n := 620) (Nat.le_refl _) (Nat.le_refl _) ?_
  refine va_putF (D := (dC, dI)) (ci := 0) (v := .ref q_17) (ty := .array .int) (C := RX0) (T := TX0) (N := 9) hx hb hts in_X0 tyX0 tyX0_ok nmX0 hown hK hP hD hS 0 rfl rfl 2 (by decide) (hts (.fieldLink RX0 15 "SameTerms$Closure" "other" "[I") (by decide +kernel)) (fun _ h9 => h9) rfl hin rfl (by decide +kernel) rfl rfl (Nat.le_of_ble_eq_true rfl) dX0_init_19 (fun H locs hP hD hS => ?_)
  have hP : va_P (dC, dI) vwCl [(h_C, .inr (0, [.int 0, .ref q_8, .ref q_17, .null, .null, .null, .null, .null, .int 0])), (q_8, .inl (cI, 310, .inl (fun _ => 0))), (q_17, .inl (cI, 310, .inl (fun _ => 0)))] H := hP
  have hD : va_D A [(h_C, .inr (0, [.int 0, .ref q_8, .ref q_17, .null, .null, .null, .null, .null, .int 0])), (q_8, .inl (cI, 310, .inl (fun _ => 0))), (q_17, .inl (cI, 310, .inl (fun _ => 0)))] := hD
  refine lv_aload_n hx hb dX0_init_22 rfl (lv_at hl 0 rfl) ?_
  refine lv_sipush (v := (256 : Int32)) hx hb dX0_init_23 (by decide) ?_
  refine va_newa (atype := .int) (ty := .int) (N' := 256) (a0 := (256, .inl (fun _ => 0))) hx hb (hts (.arrayClass .int) (by decide +kernel)) rfl hK hP hD hS hA (fun _ => rfl) (by decide) (by decide) (by decide) (Nat.le_of_ble_eq_true rfl) (Nat.le_of_ble_eq_true rfl) dX0_init_26 (fun q_26 cA H hK hP hD hS => ?_)
  obtain rfl : cI = cA := ty_same hK
  have hK := hK.sub (tys' := [(cI, .int), (cZ, .boolean)]) [0, 1] rfl
  have hP : va_P (dC, dI) vwCl [(h_C, .inr (0, [.int 0, .ref q_8, .ref q_17, .null, .null, .null, .null, .null, .int 0])), (q_8, .inl (cI, 310, .inl (fun _ => 0))), (q_17, .inl (cI, 310, .inl (fun _ => 0))), (q_26, .inl (cI, 256, .inl (fun _ => 0)))] H := hP
  have hD : va_D A [(h_C, .inr (0, [.int 0, .ref q_8, .ref q_17, .null, .null, .null, .null, .null, .int 0])), (q_8, .inl (cI, 310, .inl (fun _ => 0))), (q_17, .inl (cI, 310, .inl (fun _ => 0))), (q_26, .inl (cI, 256, .inl (fun _ => 0)))] := hD
  refine W.widen (k := 3) (n := 876) (Nat.le_refl _) (Nat.le_refl _) ?_
  refine va_putF (D := (dC, dI)) (ci := 0) (v := .ref q_26) (ty := .array .int) (C := RX0) (T := TX0) (N := 9) hx hb hts in_X0 tyX0 tyX0_ok nmX0 hown hK hP hD hS 0 rfl rfl 3 (by decide) (hts (.fieldLink RX0 18 "SameTerms$Closure" "bucket" "[I") (by decide +kernel)) (fun _ h9 => h9) rfl hin rfl (by decide +kernel) rfl rfl (Nat.le_of_ble_eq_true rfl) dX0_init_28 (fun H locs hP hD hS => ?_)
  have hP : va_P (dC, dI) vwCl [(h_C, .inr (0, [.int 0, .ref q_8, .ref q_17, .ref q_26, .null, .null, .null, .null, .int 0])), (q_8, .inl (cI, 310, .inl (fun _ => 0))), (q_17, .inl (cI, 310, .inl (fun _ => 0))), (q_26, .inl (cI, 256, .inl (fun _ => 0)))] H := hP
  have hD : va_D A [(h_C, .inr (0, [.int 0, .ref q_8, .ref q_17, .ref q_26, .null, .null, .null, .null, .int 0])), (q_8, .inl (cI, 310, .inl (fun _ => 0))), (q_17, .inl (cI, 310, .inl (fun _ => 0))), (q_26, .inl (cI, 256, .inl (fun _ => 0)))] := hD
  refine lv_aload_n hx hb dX0_init_31 rfl (lv_at hl 0 rfl) ?_
  refine lv_sipush (v := (250 : Int32)) hx hb dX0_init_32 (by decide) ?_
  refine va_newa (atype := .int) (ty := .int) (N' := 250) (a0 := (250, .inl (fun _ => 0))) hx hb (hts (.arrayClass .int) (by decide +kernel)) rfl hK hP hD hS hA (fun _ => rfl) (by decide) (by decide) (by decide) (Nat.le_of_ble_eq_true rfl) (Nat.le_of_ble_eq_true rfl) dX0_init_35 (fun q_35 cA H hK hP hD hS => ?_)
  obtain rfl : cI = cA := ty_same hK
  have hK := hK.sub (tys' := [(cI, .int), (cZ, .boolean)]) [0, 1] rfl
  have hP : va_P (dC, dI) vwCl [(h_C, .inr (0, [.int 0, .ref q_8, .ref q_17, .ref q_26, .null, .null, .null, .null, .int 0])), (q_8, .inl (cI, 310, .inl (fun _ => 0))), (q_17, .inl (cI, 310, .inl (fun _ => 0))), (q_26, .inl (cI, 256, .inl (fun _ => 0))), (q_35, .inl (cI, 250, .inl (fun _ => 0)))] H := hP
  have hD : va_D A [(h_C, .inr (0, [.int 0, .ref q_8, .ref q_17, .ref q_26, .null, .null, .null, .null, .int 0])), (q_8, .inl (cI, 310, .inl (fun _ => 0))), (q_17, .inl (cI, 310, .inl (fun _ => 0))), (q_26, .inl (cI, 256, .inl (fun _ => 0))), (q_35, .inl (cI, 250, .inl (fun _ => 0)))] := hD
  refine W.widen (k := 4) (n := 1126) (Nat.le_refl _) (Nat.le_refl _) ?_
  refine va_putF (D := (dC, dI)) (ci := 0) (v := .ref q_35) (ty := .array .int) (C := RX0) (T := TX0) (N := 9) hx hb hts in_X0 tyX0 tyX0_ok nmX0 hown hK hP hD hS 0 rfl rfl 4 (by decide) (hts (.fieldLink RX0 21 "SameTerms$Closure" "nextInBucket" "[I") (by decide +kernel)) (fun _ h9 => h9) rfl hin rfl (by decide +kernel) rfl rfl (Nat.le_of_ble_eq_true rfl) dX0_init_37 (fun H locs hP hD hS => ?_)
  have hP : va_P (dC, dI) vwCl [(h_C, .inr (0, [.int 0, .ref q_8, .ref q_17, .ref q_26, .ref q_35, .null, .null, .null, .int 0])), (q_8, .inl (cI, 310, .inl (fun _ => 0))), (q_17, .inl (cI, 310, .inl (fun _ => 0))), (q_26, .inl (cI, 256, .inl (fun _ => 0))), (q_35, .inl (cI, 250, .inl (fun _ => 0)))] H := hP
  have hD : va_D A [(h_C, .inr (0, [.int 0, .ref q_8, .ref q_17, .ref q_26, .ref q_35, .null, .null, .null, .int 0])), (q_8, .inl (cI, 310, .inl (fun _ => 0))), (q_17, .inl (cI, 310, .inl (fun _ => 0))), (q_26, .inl (cI, 256, .inl (fun _ => 0))), (q_35, .inl (cI, 250, .inl (fun _ => 0)))] := hD
  refine lv_aload_n hx hb dX0_init_40 rfl (lv_at hl 0 rfl) ?_
  refine lv_sipush (v := (250 : Int32)) hx hb dX0_init_41 (by decide) ?_
  refine va_newa (atype := .int) (ty := .int) (N' := 250) (a0 := (250, .inl (fun _ => 0))) hx hb (hts (.arrayClass .int) (by decide +kernel)) rfl hK hP hD hS hA (fun _ => rfl) (by decide) (by decide) (by decide) (Nat.le_of_ble_eq_true rfl) (Nat.le_of_ble_eq_true rfl) dX0_init_44 (fun q_44 cA H hK hP hD hS => ?_)
  obtain rfl : cI = cA := ty_same hK
  have hK := hK.sub (tys' := [(cI, .int), (cZ, .boolean)]) [0, 1] rfl
  have hP : va_P (dC, dI) vwCl [(h_C, .inr (0, [.int 0, .ref q_8, .ref q_17, .ref q_26, .ref q_35, .null, .null, .null, .int 0])), (q_8, .inl (cI, 310, .inl (fun _ => 0))), (q_17, .inl (cI, 310, .inl (fun _ => 0))), (q_26, .inl (cI, 256, .inl (fun _ => 0))), (q_35, .inl (cI, 250, .inl (fun _ => 0))), (q_44, .inl (cI, 250, .inl (fun _ => 0)))] H := hP
  have hD : va_D A [(h_C, .inr (0, [.int 0, .ref q_8, .ref q_17, .ref q_26, .ref q_35, .null, .null, .null, .int 0])), (q_8, .inl (cI, 310, .inl (fun _ => 0))), (q_17, .inl (cI, 310, .inl (fun _ => 0))), (q_26, .inl (cI, 256, .inl (fun _ => 0))), (q_35, .inl (cI, 250, .inl (fun _ => 0))), (q_44, .inl (cI, 250, .inl (fun _ => 0)))] := hD
  refine W.widen (k := 5) (n := 1376) (Nat.le_refl _) (Nat.le_refl _) ?_
  refine va_putF (D := (dC, dI)) (ci := 0) (v := .ref q_44) (ty := .array .int) (C := RX0) (T := TX0) (N := 9) hx hb hts in_X0 tyX0 tyX0_ok nmX0 hown hK hP hD hS 0 rfl rfl 5 (by decide) (hts (.fieldLink RX0 24 "SameTerms$Closure" "sign" "[I") (by decide +kernel)) (fun _ h9 => h9) rfl hin rfl (by decide +kernel) rfl rfl (Nat.le_of_ble_eq_true rfl) dX0_init_46 (fun H locs hP hD hS => ?_)
  have hP : va_P (dC, dI) vwCl [(h_C, .inr (0, [.int 0, .ref q_8, .ref q_17, .ref q_26, .ref q_35, .ref q_44, .null, .null, .int 0])), (q_8, .inl (cI, 310, .inl (fun _ => 0))), (q_17, .inl (cI, 310, .inl (fun _ => 0))), (q_26, .inl (cI, 256, .inl (fun _ => 0))), (q_35, .inl (cI, 250, .inl (fun _ => 0))), (q_44, .inl (cI, 250, .inl (fun _ => 0)))] H := hP
  have hD : va_D A [(h_C, .inr (0, [.int 0, .ref q_8, .ref q_17, .ref q_26, .ref q_35, .ref q_44, .null, .null, .int 0])), (q_8, .inl (cI, 310, .inl (fun _ => 0))), (q_17, .inl (cI, 310, .inl (fun _ => 0))), (q_26, .inl (cI, 256, .inl (fun _ => 0))), (q_35, .inl (cI, 250, .inl (fun _ => 0))), (q_44, .inl (cI, 250, .inl (fun _ => 0)))] := hD
  refine lv_aload_n hx hb dX0_init_49 rfl (lv_at hl 0 rfl) ?_
  refine lv_sipush (v := (250 : Int32)) hx hb dX0_init_50 (by decide) ?_
  refine va_newa (atype := .boolean) (ty := .boolean) (N' := 250) (a0 := (250, .inl (fun _ => 0))) hx hb (hts (.arrayClass .boolean) (by decide +kernel)) rfl hK hP hD hS hA (fun _ => rfl) (by decide) (by decide) (by decide) (Nat.le_of_ble_eq_true rfl) (Nat.le_of_ble_eq_true rfl) dX0_init_53 (fun q_53 cA H hK hP hD hS => ?_)
  obtain rfl : cZ = cA := ty_sameZ hK
  have hK := hK.sub (tys' := [(cI, .int), (cZ, .boolean)]) [0, 1] rfl
  have hP : va_P (dC, dI) vwCl [(h_C, .inr (0, [.int 0, .ref q_8, .ref q_17, .ref q_26, .ref q_35, .ref q_44, .null, .null, .int 0])), (q_8, .inl (cI, 310, .inl (fun _ => 0))), (q_17, .inl (cI, 310, .inl (fun _ => 0))), (q_26, .inl (cI, 256, .inl (fun _ => 0))), (q_35, .inl (cI, 250, .inl (fun _ => 0))), (q_44, .inl (cI, 250, .inl (fun _ => 0))), (q_53, .inl (cZ, 250, .inl (fun _ => 0)))] H := hP
  have hD : va_D A [(h_C, .inr (0, [.int 0, .ref q_8, .ref q_17, .ref q_26, .ref q_35, .ref q_44, .null, .null, .int 0])), (q_8, .inl (cI, 310, .inl (fun _ => 0))), (q_17, .inl (cI, 310, .inl (fun _ => 0))), (q_26, .inl (cI, 256, .inl (fun _ => 0))), (q_35, .inl (cI, 250, .inl (fun _ => 0))), (q_44, .inl (cI, 250, .inl (fun _ => 0))), (q_53, .inl (cZ, 250, .inl (fun _ => 0)))] := hD
  refine W.widen (k := 6) (n := 1626) (Nat.le_refl _) (Nat.le_refl _) ?_
  refine va_putF (D := (dC, dI)) (ci := 0) (v := .ref q_53) (ty := .array .boolean) (C := RX0) (T := TX0) (N := 9) hx hb hts in_X0 tyX0 tyX0_ok nmX0 hown hK hP hD hS 0 rfl rfl 6 (by decide) (hts (.fieldLink RX0 27 "SameTerms$Closure" "stands" "[Z") (by decide +kernel)) (fun _ h9 => h9) rfl hin rfl (by decide +kernel) rfl rfl (Nat.le_of_ble_eq_true rfl) dX0_init_55 (fun H locs hP hD hS => ?_)
  have hP : va_P (dC, dI) vwCl [(h_C, .inr (0, [.int 0, .ref q_8, .ref q_17, .ref q_26, .ref q_35, .ref q_44, .ref q_53, .null, .int 0])), (q_8, .inl (cI, 310, .inl (fun _ => 0))), (q_17, .inl (cI, 310, .inl (fun _ => 0))), (q_26, .inl (cI, 256, .inl (fun _ => 0))), (q_35, .inl (cI, 250, .inl (fun _ => 0))), (q_44, .inl (cI, 250, .inl (fun _ => 0))), (q_53, .inl (cZ, 250, .inl (fun _ => 0)))] H := hP
  have hD : va_D A [(h_C, .inr (0, [.int 0, .ref q_8, .ref q_17, .ref q_26, .ref q_35, .ref q_44, .ref q_53, .null, .int 0])), (q_8, .inl (cI, 310, .inl (fun _ => 0))), (q_17, .inl (cI, 310, .inl (fun _ => 0))), (q_26, .inl (cI, 256, .inl (fun _ => 0))), (q_35, .inl (cI, 250, .inl (fun _ => 0))), (q_44, .inl (cI, 250, .inl (fun _ => 0))), (q_53, .inl (cZ, 250, .inl (fun _ => 0)))] := hD
  refine lv_aload_n hx hb dX0_init_58 rfl (lv_at hl 0 rfl) ?_
  refine lv_sipush (v := (250 : Int32)) hx hb dX0_init_59 (by decide) ?_
  refine va_newa (atype := .int) (ty := .int) (N' := 250) (a0 := (250, .inl (fun _ => 0))) hx hb (hts (.arrayClass .int) (by decide +kernel)) rfl hK hP hD hS hA (fun _ => rfl) (by decide) (by decide) (by decide) (Nat.le_of_ble_eq_true rfl) (Nat.le_of_ble_eq_true rfl) dX0_init_62 (fun q_62 cA H hK hP hD hS => ?_)
  obtain rfl : cI = cA := ty_same hK
  have hK := hK.sub (tys' := [(cI, .int), (cZ, .boolean)]) [0, 1] rfl
  have hP : va_P (dC, dI) vwCl [(h_C, .inr (0, [.int 0, .ref q_8, .ref q_17, .ref q_26, .ref q_35, .ref q_44, .ref q_53, .null, .int 0])), (q_8, .inl (cI, 310, .inl (fun _ => 0))), (q_17, .inl (cI, 310, .inl (fun _ => 0))), (q_26, .inl (cI, 256, .inl (fun _ => 0))), (q_35, .inl (cI, 250, .inl (fun _ => 0))), (q_44, .inl (cI, 250, .inl (fun _ => 0))), (q_53, .inl (cZ, 250, .inl (fun _ => 0))), (q_62, .inl (cI, 250, .inl (fun _ => 0)))] H := hP
  have hD : va_D A [(h_C, .inr (0, [.int 0, .ref q_8, .ref q_17, .ref q_26, .ref q_35, .ref q_44, .ref q_53, .null, .int 0])), (q_8, .inl (cI, 310, .inl (fun _ => 0))), (q_17, .inl (cI, 310, .inl (fun _ => 0))), (q_26, .inl (cI, 256, .inl (fun _ => 0))), (q_35, .inl (cI, 250, .inl (fun _ => 0))), (q_44, .inl (cI, 250, .inl (fun _ => 0))), (q_53, .inl (cZ, 250, .inl (fun _ => 0))), (q_62, .inl (cI, 250, .inl (fun _ => 0)))] := hD
  refine W.widen (k := 7) (n := 1876) (Nat.le_refl _) (Nat.le_refl _) ?_
  refine va_putF (D := (dC, dI)) (ci := 0) (v := .ref q_62) (ty := .array .int) (C := RX0) (T := TX0) (N := 9) hx hb hts in_X0 tyX0 tyX0_ok nmX0 hown hK hP hD hS 0 rfl rfl 7 (by decide) (hts (.fieldLink RX0 31 "SameTerms$Closure" "loose" "[I") (by decide +kernel)) (fun _ h9 => h9) rfl hin rfl (by decide +kernel) rfl rfl (Nat.le_of_ble_eq_true rfl) dX0_init_64 (fun H locs hP hD hS => ?_)
  have hP : va_P (dC, dI) vwCl [(h_C, .inr (0, [.int 0, .ref q_8, .ref q_17, .ref q_26, .ref q_35, .ref q_44, .ref q_53, .ref q_62, .int 0])), (q_8, .inl (cI, 310, .inl (fun _ => 0))), (q_17, .inl (cI, 310, .inl (fun _ => 0))), (q_26, .inl (cI, 256, .inl (fun _ => 0))), (q_35, .inl (cI, 250, .inl (fun _ => 0))), (q_44, .inl (cI, 250, .inl (fun _ => 0))), (q_53, .inl (cZ, 250, .inl (fun _ => 0))), (q_62, .inl (cI, 250, .inl (fun _ => 0)))] H := hP
  have hD : va_D A [(h_C, .inr (0, [.int 0, .ref q_8, .ref q_17, .ref q_26, .ref q_35, .ref q_44, .ref q_53, .ref q_62, .int 0])), (q_8, .inl (cI, 310, .inl (fun _ => 0))), (q_17, .inl (cI, 310, .inl (fun _ => 0))), (q_26, .inl (cI, 256, .inl (fun _ => 0))), (q_35, .inl (cI, 250, .inl (fun _ => 0))), (q_44, .inl (cI, 250, .inl (fun _ => 0))), (q_53, .inl (cZ, 250, .inl (fun _ => 0))), (q_62, .inl (cI, 250, .inl (fun _ => 0)))] := hD
  exact W.vret hx hb hr (fun t ht hW => ⟨⟨(), rfl, trivial, q_8, q_17, q_26, q_35, q_44, q_53, q_62, by rw [ht]; exact hP, va_K.moved hW.alike hK, hD⟩, hS.F ht⟩) hS.2.2 dX0_init_67
set_option maxHeartbeats 4000000 in
set_option maxRecDepth 100000 in
theorem c_X1_init (l : Launch) (dC : Nat → ClassId) (dI : Nat → Nat → Nat) (cI cZ : ClassId) (sz h_F : Nat) : Met l yX1_init wsX1_init ({ frames := 1, cells := 5, slots := 1250, locals := 12 }) (va_Pc [.ref h_F] (fun U => U.heap.size = sz ∧ va_P (dC, dI) vwCl [(h_F, .inr (1, [.null, .null, .null, .int 0, .int 0, .null, .null]))] U.heap ∧ va_K (dC, dI) vwCl [(cI, .int), (cZ, .boolean)] U ∧ va_D (fun _ => True) [(h_F, .inr (1, [.null, .null, .null, .int 0, .int 0, .null, .null]))])) (va_Qv (fun (u : Unit) => True) (fun (u : Unit) (t : State) => ∃ a_F_members a_F_lowest a_F_nextMember a_F_above a_F_joined : Nat, va_P (dC, dI) vwCl [(h_F, .inr (1, [.ref a_F_members, .ref a_F_lowest, .ref a_F_nextMember, .int (fo_trees fo_0), .int (fo_latest fo_0), .ref a_F_above, .ref a_F_joined])), (a_F_members, .inl (cI, 250, .inl (fo_members fo_0))), (a_F_lowest, .inl (cI, 250, .inl (fo_lowest fo_0))), (a_F_nextMember, .inl (cI, 250, .inl (fo_nextMember fo_0))), (a_F_above, .inl (cI, 250, .inl (fo_above fo_0))), (a_F_joined, .inl (cI, 250, .inl (fo_joined fo_0)))] t.heap ∧ va_K (dC, dI) vwCl [(cI, .int), (cZ, .boolean)] t ∧ va_D (va_A [(h_F, .inr (1, [.null, .null, .null, .int 0, .int 0, .null, .null]))] sz) [(h_F, .inr (1, [.ref a_F_members, .ref a_F_lowest, .ref a_F_nextMember, .int (fo_trees fo_0), .int (fo_latest fo_0), .ref a_F_above, .ref a_F_joined])), (a_F_members, .inl (cI, 250, .inl (fo_members fo_0))), (a_F_lowest, .inl (cI, 250, .inl (fo_lowest fo_0))), (a_F_nextMember, .inl (cI, 250, .inl (fo_nextMember fo_0))), (a_F_above, .inl (cI, 250, .inl (fo_above fo_0))), (a_F_joined, .inl (cI, 250, .inl (fo_joined fo_0)))]) (va_A [(h_F, .inr (1, [.null, .null, .null, .int 0, .int 0, .null, .null]))] sz)) 5 1250 (va_A [(h_F, .inr (1, [.null, .null, .null, .int 0, .int 0, .null, .null]))] sz) := by
  refine Met.ofW (cc := cX1_init) (maxL := 1) (ret := none) (by decide) rfl ?_
  intro p e s m args below meth c s₁ B hml hv
  obtain ⟨rfl, hsz, hP, hK, hD0⟩ := hv
  have hx := B.exec
  have hb := B.bytes
  have hr := B.returns
  have hts := atoms_spec (ws := wsX1_init) B.pre
  have hown : s.vm.findClass RX1 = some m.cls := findClass_of_methodNamed B.named
  have hlocks := B.notSynchronized
  have hin : meth.name = "<init>" := (name_of_methodNamed B.named B.method).1
  subst hsz
  have hD := hD0.self (sz := s.heap.size)
  generalize hAe : va_A [(h_F, .inr (1, [.null, .null, .null, .int 0, .int 0, .null, .null]))] s.heap.size = A at hD ⊢
  have hA : ∀ q : Nat, s.heap.size ≤ q → A q := fun q h => by rw [← hAe]; exact Or.inr h
  have hS : va_S A s.heap s.heap [] := va_S.rf
  have hP : va_P (dC, dI) vwCl [(h_F, .inr (1, [.null, .null, .null, .int 0, .int 0, .null, .null]))] s.heap := hP
  have hl := lv_entry ([.ref h_F]) (n := 1) (Nat.le_of_ble_eq_true rfl)
  rw [lg_entry_eq]
  generalize (lg_sl ([.ref h_F]) ++ List.replicate (1 - (lg_sl ([.ref h_F])).length) Slot.unset).toArray = ls at hl ⊢
  have hl : lv_has ls 1 [(0, .ref h_F)] := hl
  have in_X1 : ∀ w ∈ wsX10, w ∈ wsX1_init := by decide +kernel
  refine lv_aload_n hx hb dX1_init_0 rfl (lv_at hl 0 rfl) ?_
  refine W.objInit hx hb hown (hts (.methodLink RX1 3 objectInit) (by decide +kernel)) (hts (.instanceMethod objectInit) (by decide +kernel)) (hts _ (List.mem_of_getElem? (i := 3) rfl)) rfl (by rw [hml]; exact hl.1) rfl dX1_init_1 (Nat.le_of_ble_eq_true rfl) (Nat.le_of_ble_eq_true rfl) ?_
  refine W.eq (g2 := F0 m 4 ls []) rfl ?_
  refine lv_aload_n hx hb dX1_init_4 rfl (lv_at hl 0 rfl) ?_
  refine lv_sipush (v := (250 : Int32)) hx hb dX1_init_5 (by decide) ?_
  refine va_newa (atype := .int) (ty := .int) (N' := 250) (a0 := (250, .inl (fun _ => 0))) hx hb (hts (.arrayClass .int) (by decide +kernel)) rfl hK hP hD hS hA (fun _ => rfl) (by decide) (by decide) (by decide) (Nat.le_of_ble_eq_true rfl) (Nat.le_of_ble_eq_true rfl) dX1_init_8 (fun q_8 cA H hK hP hD hS => ?_)
  obtain rfl : cI = cA := ty_same hK
  have hK := hK.sub (tys' := [(cI, .int), (cZ, .boolean)]) [0, 1] rfl
  have hP : va_P (dC, dI) vwCl [(h_F, .inr (1, [.null, .null, .null, .int 0, .int 0, .null, .null])), (q_8, .inl (cI, 250, .inl (fun _ => 0)))] H := hP
  have hD : va_D A [(h_F, .inr (1, [.null, .null, .null, .int 0, .int 0, .null, .null])), (q_8, .inl (cI, 250, .inl (fun _ => 0)))] := hD
  refine W.widen (k := 1) (n := 250) (Nat.le_refl _) (Nat.le_refl _) ?_
  refine va_putF (D := (dC, dI)) (ci := 1) (v := .ref q_8) (ty := .array .int) (C := RX1) (T := TX1) (N := 7) hx hb hts in_X1 tyX1 tyX1_ok nmX1 hown hK hP hD hS 0 rfl rfl 0 (by decide) (hts (.fieldLink RX1 9 "SameTerms$Forest" "members" "[I") (by decide +kernel)) (fun _ h9 => h9) rfl hin rfl (by decide +kernel) rfl rfl (Nat.le_of_ble_eq_true rfl) dX1_init_10 (fun H locs hP hD hS => ?_)
  have hP : va_P (dC, dI) vwCl [(h_F, .inr (1, [.ref q_8, .null, .null, .int 0, .int 0, .null, .null])), (q_8, .inl (cI, 250, .inl (fun _ => 0)))] H := hP
  have hD : va_D A [(h_F, .inr (1, [.ref q_8, .null, .null, .int 0, .int 0, .null, .null])), (q_8, .inl (cI, 250, .inl (fun _ => 0)))] := hD
  refine lv_aload_n hx hb dX1_init_13 rfl (lv_at hl 0 rfl) ?_
  refine lv_sipush (v := (250 : Int32)) hx hb dX1_init_14 (by decide) ?_
  refine va_newa (atype := .int) (ty := .int) (N' := 250) (a0 := (250, .inl (fun _ => 0))) hx hb (hts (.arrayClass .int) (by decide +kernel)) rfl hK hP hD hS hA (fun _ => rfl) (by decide) (by decide) (by decide) (Nat.le_of_ble_eq_true rfl) (Nat.le_of_ble_eq_true rfl) dX1_init_17 (fun q_17 cA H hK hP hD hS => ?_)
  obtain rfl : cI = cA := ty_same hK
  have hK := hK.sub (tys' := [(cI, .int), (cZ, .boolean)]) [0, 1] rfl
  have hP : va_P (dC, dI) vwCl [(h_F, .inr (1, [.ref q_8, .null, .null, .int 0, .int 0, .null, .null])), (q_8, .inl (cI, 250, .inl (fun _ => 0))), (q_17, .inl (cI, 250, .inl (fun _ => 0)))] H := hP
  have hD : va_D A [(h_F, .inr (1, [.ref q_8, .null, .null, .int 0, .int 0, .null, .null])), (q_8, .inl (cI, 250, .inl (fun _ => 0))), (q_17, .inl (cI, 250, .inl (fun _ => 0)))] := hD
  refine W.widen (k := 2) (n := 500) (Nat.le_refl _) (Nat.le_refl _) ?_
  refine va_putF (D := (dC, dI)) (ci := 1) (v := .ref q_17) (ty := .array .int) (C := RX1) (T := TX1) (N := 7) hx hb hts in_X1 tyX1 tyX1_ok nmX1 hown hK hP hD hS 0 rfl rfl 1 (by decide) (hts (.fieldLink RX1 15 "SameTerms$Forest" "lowest" "[I") (by decide +kernel)) (fun _ h9 => h9) rfl hin rfl (by decide +kernel) rfl rfl (Nat.le_of_ble_eq_true rfl) dX1_init_19 (fun H locs hP hD hS => ?_)
  have hP : va_P (dC, dI) vwCl [(h_F, .inr (1, [.ref q_8, .ref q_17, .null, .int 0, .int 0, .null, .null])), (q_8, .inl (cI, 250, .inl (fun _ => 0))), (q_17, .inl (cI, 250, .inl (fun _ => 0)))] H := hP
  have hD : va_D A [(h_F, .inr (1, [.ref q_8, .ref q_17, .null, .int 0, .int 0, .null, .null])), (q_8, .inl (cI, 250, .inl (fun _ => 0))), (q_17, .inl (cI, 250, .inl (fun _ => 0)))] := hD
  refine lv_aload_n hx hb dX1_init_22 rfl (lv_at hl 0 rfl) ?_
  refine lv_sipush (v := (250 : Int32)) hx hb dX1_init_23 (by decide) ?_
  refine va_newa (atype := .int) (ty := .int) (N' := 250) (a0 := (250, .inl (fun _ => 0))) hx hb (hts (.arrayClass .int) (by decide +kernel)) rfl hK hP hD hS hA (fun _ => rfl) (by decide) (by decide) (by decide) (Nat.le_of_ble_eq_true rfl) (Nat.le_of_ble_eq_true rfl) dX1_init_26 (fun q_26 cA H hK hP hD hS => ?_)
  obtain rfl : cI = cA := ty_same hK
  have hK := hK.sub (tys' := [(cI, .int), (cZ, .boolean)]) [0, 1] rfl
  have hP : va_P (dC, dI) vwCl [(h_F, .inr (1, [.ref q_8, .ref q_17, .null, .int 0, .int 0, .null, .null])), (q_8, .inl (cI, 250, .inl (fun _ => 0))), (q_17, .inl (cI, 250, .inl (fun _ => 0))), (q_26, .inl (cI, 250, .inl (fun _ => 0)))] H := hP
  have hD : va_D A [(h_F, .inr (1, [.ref q_8, .ref q_17, .null, .int 0, .int 0, .null, .null])), (q_8, .inl (cI, 250, .inl (fun _ => 0))), (q_17, .inl (cI, 250, .inl (fun _ => 0))), (q_26, .inl (cI, 250, .inl (fun _ => 0)))] := hD
  refine W.widen (k := 3) (n := 750) (Nat.le_refl _) (Nat.le_refl _) ?_
  refine va_putF (D := (dC, dI)) (ci := 1) (v := .ref q_26) (ty := .array .int) (C := RX1) (T := TX1) (N := 7) hx hb hts in_X1 tyX1 tyX1_ok nmX1 hown hK hP hD hS 0 rfl rfl 2 (by decide) (hts (.fieldLink RX1 18 "SameTerms$Forest" "nextMember" "[I") (by decide +kernel)) (fun _ h9 => h9) rfl hin rfl (by decide +kernel) rfl rfl (Nat.le_of_ble_eq_true rfl) dX1_init_28 (fun H locs hP hD hS => ?_)
  have hP : va_P (dC, dI) vwCl [(h_F, .inr (1, [.ref q_8, .ref q_17, .ref q_26, .int 0, .int 0, .null, .null])), (q_8, .inl (cI, 250, .inl (fun _ => 0))), (q_17, .inl (cI, 250, .inl (fun _ => 0))), (q_26, .inl (cI, 250, .inl (fun _ => 0)))] H := hP
  have hD : va_D A [(h_F, .inr (1, [.ref q_8, .ref q_17, .ref q_26, .int 0, .int 0, .null, .null])), (q_8, .inl (cI, 250, .inl (fun _ => 0))), (q_17, .inl (cI, 250, .inl (fun _ => 0))), (q_26, .inl (cI, 250, .inl (fun _ => 0)))] := hD
  refine lv_aload_n hx hb dX1_init_31 rfl (lv_at hl 0 rfl) ?_
  refine lv_sipush (v := (250 : Int32)) hx hb dX1_init_32 (by decide) ?_
  refine va_newa (atype := .int) (ty := .int) (N' := 250) (a0 := (250, .inl (fun _ => 0))) hx hb (hts (.arrayClass .int) (by decide +kernel)) rfl hK hP hD hS hA (fun _ => rfl) (by decide) (by decide) (by decide) (Nat.le_of_ble_eq_true rfl) (Nat.le_of_ble_eq_true rfl) dX1_init_35 (fun q_35 cA H hK hP hD hS => ?_)
  obtain rfl : cI = cA := ty_same hK
  have hK := hK.sub (tys' := [(cI, .int), (cZ, .boolean)]) [0, 1] rfl
  have hP : va_P (dC, dI) vwCl [(h_F, .inr (1, [.ref q_8, .ref q_17, .ref q_26, .int 0, .int 0, .null, .null])), (q_8, .inl (cI, 250, .inl (fun _ => 0))), (q_17, .inl (cI, 250, .inl (fun _ => 0))), (q_26, .inl (cI, 250, .inl (fun _ => 0))), (q_35, .inl (cI, 250, .inl (fun _ => 0)))] H := hP
  have hD : va_D A [(h_F, .inr (1, [.ref q_8, .ref q_17, .ref q_26, .int 0, .int 0, .null, .null])), (q_8, .inl (cI, 250, .inl (fun _ => 0))), (q_17, .inl (cI, 250, .inl (fun _ => 0))), (q_26, .inl (cI, 250, .inl (fun _ => 0))), (q_35, .inl (cI, 250, .inl (fun _ => 0)))] := hD
  refine W.widen (k := 4) (n := 1000) (Nat.le_refl _) (Nat.le_refl _) ?_
  refine va_putF (D := (dC, dI)) (ci := 1) (v := .ref q_35) (ty := .array .int) (C := RX1) (T := TX1) (N := 7) hx hb hts in_X1 tyX1 tyX1_ok nmX1 hown hK hP hD hS 0 rfl rfl 5 (by decide) (hts (.fieldLink RX1 21 "SameTerms$Forest" "above" "[I") (by decide +kernel)) (fun _ h9 => h9) rfl hin rfl (by decide +kernel) rfl rfl (Nat.le_of_ble_eq_true rfl) dX1_init_37 (fun H locs hP hD hS => ?_)
  have hP : va_P (dC, dI) vwCl [(h_F, .inr (1, [.ref q_8, .ref q_17, .ref q_26, .int 0, .int 0, .ref q_35, .null])), (q_8, .inl (cI, 250, .inl (fun _ => 0))), (q_17, .inl (cI, 250, .inl (fun _ => 0))), (q_26, .inl (cI, 250, .inl (fun _ => 0))), (q_35, .inl (cI, 250, .inl (fun _ => 0)))] H := hP
  have hD : va_D A [(h_F, .inr (1, [.ref q_8, .ref q_17, .ref q_26, .int 0, .int 0, .ref q_35, .null])), (q_8, .inl (cI, 250, .inl (fun _ => 0))), (q_17, .inl (cI, 250, .inl (fun _ => 0))), (q_26, .inl (cI, 250, .inl (fun _ => 0))), (q_35, .inl (cI, 250, .inl (fun _ => 0)))] := hD
  refine lv_aload_n hx hb dX1_init_40 rfl (lv_at hl 0 rfl) ?_
  refine lv_sipush (v := (250 : Int32)) hx hb dX1_init_41 (by decide) ?_
  refine va_newa (atype := .int) (ty := .int) (N' := 250) (a0 := (250, .inl (fun _ => 0))) hx hb (hts (.arrayClass .int) (by decide +kernel)) rfl hK hP hD hS hA (fun _ => rfl) (by decide) (by decide) (by decide) (Nat.le_of_ble_eq_true rfl) (Nat.le_of_ble_eq_true rfl) dX1_init_44 (fun q_44 cA H hK hP hD hS => ?_)
  obtain rfl : cI = cA := ty_same hK
  have hK := hK.sub (tys' := [(cI, .int), (cZ, .boolean)]) [0, 1] rfl
  have hP : va_P (dC, dI) vwCl [(h_F, .inr (1, [.ref q_8, .ref q_17, .ref q_26, .int 0, .int 0, .ref q_35, .null])), (q_8, .inl (cI, 250, .inl (fun _ => 0))), (q_17, .inl (cI, 250, .inl (fun _ => 0))), (q_26, .inl (cI, 250, .inl (fun _ => 0))), (q_35, .inl (cI, 250, .inl (fun _ => 0))), (q_44, .inl (cI, 250, .inl (fun _ => 0)))] H := hP
  have hD : va_D A [(h_F, .inr (1, [.ref q_8, .ref q_17, .ref q_26, .int 0, .int 0, .ref q_35, .null])), (q_8, .inl (cI, 250, .inl (fun _ => 0))), (q_17, .inl (cI, 250, .inl (fun _ => 0))), (q_26, .inl (cI, 250, .inl (fun _ => 0))), (q_35, .inl (cI, 250, .inl (fun _ => 0))), (q_44, .inl (cI, 250, .inl (fun _ => 0)))] := hD
  refine W.widen (k := 5) (n := 1250) (Nat.le_refl _) (Nat.le_refl _) ?_
  refine va_putF (D := (dC, dI)) (ci := 1) (v := .ref q_44) (ty := .array .int) (C := RX1) (T := TX1) (N := 7) hx hb hts in_X1 tyX1 tyX1_ok nmX1 hown hK hP hD hS 0 rfl rfl 6 (by decide) (hts (.fieldLink RX1 24 "SameTerms$Forest" "joined" "[I") (by decide +kernel)) (fun _ h9 => h9) rfl hin rfl (by decide +kernel) rfl rfl (Nat.le_of_ble_eq_true rfl) dX1_init_46 (fun H locs hP hD hS => ?_)
  have hP : va_P (dC, dI) vwCl [(h_F, .inr (1, [.ref q_8, .ref q_17, .ref q_26, .int 0, .int 0, .ref q_35, .ref q_44])), (q_8, .inl (cI, 250, .inl (fun _ => 0))), (q_17, .inl (cI, 250, .inl (fun _ => 0))), (q_26, .inl (cI, 250, .inl (fun _ => 0))), (q_35, .inl (cI, 250, .inl (fun _ => 0))), (q_44, .inl (cI, 250, .inl (fun _ => 0)))] H := hP
  have hD : va_D A [(h_F, .inr (1, [.ref q_8, .ref q_17, .ref q_26, .int 0, .int 0, .ref q_35, .ref q_44])), (q_8, .inl (cI, 250, .inl (fun _ => 0))), (q_17, .inl (cI, 250, .inl (fun _ => 0))), (q_26, .inl (cI, 250, .inl (fun _ => 0))), (q_35, .inl (cI, 250, .inl (fun _ => 0))), (q_44, .inl (cI, 250, .inl (fun _ => 0)))] := hD
  exact W.vret hx hb hr (fun t ht hW => ⟨⟨(), rfl, trivial, q_8, q_17, q_26, q_35, q_44, by rw [ht]; exact hP, va_K.moved hW.alike hK, hD⟩, hS.F ht⟩) hS.2.2 dX1_init_49
set_option maxHeartbeats 4000000 in
set_option maxRecDepth 100000 in
theorem c_X3_init (l : Launch) (dC : Nat → ClassId) (dI : Nat → Nat → Nat) (cI cZ : ClassId) (sz h_T : Nat) : Met l yX3_init wsX3_init ({ frames := 1, cells := 4, slots := 1250, locals := 12 }) (va_Pc [.ref h_T] (fun U => U.heap.size = sz ∧ va_P (dC, dI) vwCl [(h_T, .inr (3, [.null, .null, .int 0, .null, .null]))] U.heap ∧ va_K (dC, dI) vwCl [(cI, .int), (cZ, .boolean)] U ∧ va_D (fun _ => True) [(h_T, .inr (3, [.null, .null, .int 0, .null, .null]))])) (va_Qv (fun (u : Unit) => True) (fun (u : Unit) (t : State) => ∃ a_T_first a_T_second a_T_lastUse a_T_useBefore : Nat, va_P (dC, dI) vwCl [(h_T, .inr (3, [.ref a_T_first, .ref a_T_second, .int (te_total te_0), .ref a_T_lastUse, .ref a_T_useBefore])), (a_T_first, .inl (cI, 250, .inl (te_first te_0))), (a_T_second, .inl (cI, 250, .inl (te_second te_0))), (a_T_lastUse, .inl (cI, 250, .inl (te_lastUse te_0))), (a_T_useBefore, .inl (cI, 500, .inl (te_useBefore te_0)))] t.heap ∧ va_K (dC, dI) vwCl [(cI, .int), (cZ, .boolean)] t ∧ va_D (va_A [(h_T, .inr (3, [.null, .null, .int 0, .null, .null]))] sz) [(h_T, .inr (3, [.ref a_T_first, .ref a_T_second, .int (te_total te_0), .ref a_T_lastUse, .ref a_T_useBefore])), (a_T_first, .inl (cI, 250, .inl (te_first te_0))), (a_T_second, .inl (cI, 250, .inl (te_second te_0))), (a_T_lastUse, .inl (cI, 250, .inl (te_lastUse te_0))), (a_T_useBefore, .inl (cI, 500, .inl (te_useBefore te_0)))]) (va_A [(h_T, .inr (3, [.null, .null, .int 0, .null, .null]))] sz)) 4 1250 (va_A [(h_T, .inr (3, [.null, .null, .int 0, .null, .null]))] sz) := by
  refine Met.ofW (cc := cX3_init) (maxL := 1) (ret := none) (by decide) rfl ?_
  intro p e s m args below meth c s₁ B hml hv
  obtain ⟨rfl, hsz, hP, hK, hD0⟩ := hv
  have hx := B.exec
  have hb := B.bytes
  have hr := B.returns
  have hts := atoms_spec (ws := wsX3_init) B.pre
  have hown : s.vm.findClass RX3 = some m.cls := findClass_of_methodNamed B.named
  have hlocks := B.notSynchronized
  have hin : meth.name = "<init>" := (name_of_methodNamed B.named B.method).1
  subst hsz
  have hD := hD0.self (sz := s.heap.size)
  generalize hAe : va_A [(h_T, .inr (3, [.null, .null, .int 0, .null, .null]))] s.heap.size = A at hD ⊢
  have hA : ∀ q : Nat, s.heap.size ≤ q → A q := fun q h => by rw [← hAe]; exact Or.inr h
  have hS : va_S A s.heap s.heap [] := va_S.rf
  have hP : va_P (dC, dI) vwCl [(h_T, .inr (3, [.null, .null, .int 0, .null, .null]))] s.heap := hP
  have hl := lv_entry ([.ref h_T]) (n := 1) (Nat.le_of_ble_eq_true rfl)
  rw [lg_entry_eq]
  generalize (lg_sl ([.ref h_T]) ++ List.replicate (1 - (lg_sl ([.ref h_T])).length) Slot.unset).toArray = ls at hl ⊢
  have hl : lv_has ls 1 [(0, .ref h_T)] := hl
  have in_X3 : ∀ w ∈ wsX30, w ∈ wsX3_init := by decide +kernel
  refine lv_aload_n hx hb dX3_init_0 rfl (lv_at hl 0 rfl) ?_
  refine W.objInit hx hb hown (hts (.methodLink RX3 3 objectInit) (by decide +kernel)) (hts (.instanceMethod objectInit) (by decide +kernel)) (hts _ (List.mem_of_getElem? (i := 3) rfl)) rfl (by rw [hml]; exact hl.1) rfl dX3_init_1 (Nat.le_of_ble_eq_true rfl) (Nat.le_of_ble_eq_true rfl) ?_
  refine W.eq (g2 := F0 m 4 ls []) rfl ?_
  refine lv_aload_n hx hb dX3_init_4 rfl (lv_at hl 0 rfl) ?_
  refine lv_sipush (v := (250 : Int32)) hx hb dX3_init_5 (by decide) ?_
  refine va_newa (atype := .int) (ty := .int) (N' := 250) (a0 := (250, .inl (fun _ => 0))) hx hb (hts (.arrayClass .int) (by decide +kernel)) rfl hK hP hD hS hA (fun _ => rfl) (by decide) (by decide) (by decide) (Nat.le_of_ble_eq_true rfl) (Nat.le_of_ble_eq_true rfl) dX3_init_8 (fun q_8 cA H hK hP hD hS => ?_)
  obtain rfl : cI = cA := ty_same hK
  have hK := hK.sub (tys' := [(cI, .int), (cZ, .boolean)]) [0, 1] rfl
  have hP : va_P (dC, dI) vwCl [(h_T, .inr (3, [.null, .null, .int 0, .null, .null])), (q_8, .inl (cI, 250, .inl (fun _ => 0)))] H := hP
  have hD : va_D A [(h_T, .inr (3, [.null, .null, .int 0, .null, .null])), (q_8, .inl (cI, 250, .inl (fun _ => 0)))] := hD
  refine W.widen (k := 1) (n := 250) (Nat.le_refl _) (Nat.le_refl _) ?_
  refine va_putF (D := (dC, dI)) (ci := 3) (v := .ref q_8) (ty := .array .int) (C := RX3) (T := TX3) (N := 5) hx hb hts in_X3 tyX3 tyX3_ok nmX3 hown hK hP hD hS 0 rfl rfl 0 (by decide) (hts (.fieldLink RX3 9 "SameTerms$Terms" "first" "[I") (by decide +kernel)) (fun _ h9 => h9) rfl hin rfl (by decide +kernel) rfl rfl (Nat.le_of_ble_eq_true rfl) dX3_init_10 (fun H locs hP hD hS => ?_)
  have hP : va_P (dC, dI) vwCl [(h_T, .inr (3, [.ref q_8, .null, .int 0, .null, .null])), (q_8, .inl (cI, 250, .inl (fun _ => 0)))] H := hP
  have hD : va_D A [(h_T, .inr (3, [.ref q_8, .null, .int 0, .null, .null])), (q_8, .inl (cI, 250, .inl (fun _ => 0)))] := hD
  refine lv_aload_n hx hb dX3_init_13 rfl (lv_at hl 0 rfl) ?_
  refine lv_sipush (v := (250 : Int32)) hx hb dX3_init_14 (by decide) ?_
  refine va_newa (atype := .int) (ty := .int) (N' := 250) (a0 := (250, .inl (fun _ => 0))) hx hb (hts (.arrayClass .int) (by decide +kernel)) rfl hK hP hD hS hA (fun _ => rfl) (by decide) (by decide) (by decide) (Nat.le_of_ble_eq_true rfl) (Nat.le_of_ble_eq_true rfl) dX3_init_17 (fun q_17 cA H hK hP hD hS => ?_)
  obtain rfl : cI = cA := ty_same hK
  have hK := hK.sub (tys' := [(cI, .int), (cZ, .boolean)]) [0, 1] rfl
  have hP : va_P (dC, dI) vwCl [(h_T, .inr (3, [.ref q_8, .null, .int 0, .null, .null])), (q_8, .inl (cI, 250, .inl (fun _ => 0))), (q_17, .inl (cI, 250, .inl (fun _ => 0)))] H := hP
  have hD : va_D A [(h_T, .inr (3, [.ref q_8, .null, .int 0, .null, .null])), (q_8, .inl (cI, 250, .inl (fun _ => 0))), (q_17, .inl (cI, 250, .inl (fun _ => 0)))] := hD
  refine W.widen (k := 2) (n := 500) (Nat.le_refl _) (Nat.le_refl _) ?_
  refine va_putF (D := (dC, dI)) (ci := 3) (v := .ref q_17) (ty := .array .int) (C := RX3) (T := TX3) (N := 5) hx hb hts in_X3 tyX3 tyX3_ok nmX3 hown hK hP hD hS 0 rfl rfl 1 (by decide) (hts (.fieldLink RX3 15 "SameTerms$Terms" "second" "[I") (by decide +kernel)) (fun _ h9 => h9) rfl hin rfl (by decide +kernel) rfl rfl (Nat.le_of_ble_eq_true rfl) dX3_init_19 (fun H locs hP hD hS => ?_)
  have hP : va_P (dC, dI) vwCl [(h_T, .inr (3, [.ref q_8, .ref q_17, .int 0, .null, .null])), (q_8, .inl (cI, 250, .inl (fun _ => 0))), (q_17, .inl (cI, 250, .inl (fun _ => 0)))] H := hP
  have hD : va_D A [(h_T, .inr (3, [.ref q_8, .ref q_17, .int 0, .null, .null])), (q_8, .inl (cI, 250, .inl (fun _ => 0))), (q_17, .inl (cI, 250, .inl (fun _ => 0)))] := hD
  refine lv_aload_n hx hb dX3_init_22 rfl (lv_at hl 0 rfl) ?_
  refine lv_sipush (v := (250 : Int32)) hx hb dX3_init_23 (by decide) ?_
  refine va_newa (atype := .int) (ty := .int) (N' := 250) (a0 := (250, .inl (fun _ => 0))) hx hb (hts (.arrayClass .int) (by decide +kernel)) rfl hK hP hD hS hA (fun _ => rfl) (by decide) (by decide) (by decide) (Nat.le_of_ble_eq_true rfl) (Nat.le_of_ble_eq_true rfl) dX3_init_26 (fun q_26 cA H hK hP hD hS => ?_)
  obtain rfl : cI = cA := ty_same hK
  have hK := hK.sub (tys' := [(cI, .int), (cZ, .boolean)]) [0, 1] rfl
  have hP : va_P (dC, dI) vwCl [(h_T, .inr (3, [.ref q_8, .ref q_17, .int 0, .null, .null])), (q_8, .inl (cI, 250, .inl (fun _ => 0))), (q_17, .inl (cI, 250, .inl (fun _ => 0))), (q_26, .inl (cI, 250, .inl (fun _ => 0)))] H := hP
  have hD : va_D A [(h_T, .inr (3, [.ref q_8, .ref q_17, .int 0, .null, .null])), (q_8, .inl (cI, 250, .inl (fun _ => 0))), (q_17, .inl (cI, 250, .inl (fun _ => 0))), (q_26, .inl (cI, 250, .inl (fun _ => 0)))] := hD
  refine W.widen (k := 3) (n := 750) (Nat.le_refl _) (Nat.le_refl _) ?_
  refine va_putF (D := (dC, dI)) (ci := 3) (v := .ref q_26) (ty := .array .int) (C := RX3) (T := TX3) (N := 5) hx hb hts in_X3 tyX3 tyX3_ok nmX3 hown hK hP hD hS 0 rfl rfl 3 (by decide) (hts (.fieldLink RX3 18 "SameTerms$Terms" "lastUse" "[I") (by decide +kernel)) (fun _ h9 => h9) rfl hin rfl (by decide +kernel) rfl rfl (Nat.le_of_ble_eq_true rfl) dX3_init_28 (fun H locs hP hD hS => ?_)
  have hP : va_P (dC, dI) vwCl [(h_T, .inr (3, [.ref q_8, .ref q_17, .int 0, .ref q_26, .null])), (q_8, .inl (cI, 250, .inl (fun _ => 0))), (q_17, .inl (cI, 250, .inl (fun _ => 0))), (q_26, .inl (cI, 250, .inl (fun _ => 0)))] H := hP
  have hD : va_D A [(h_T, .inr (3, [.ref q_8, .ref q_17, .int 0, .ref q_26, .null])), (q_8, .inl (cI, 250, .inl (fun _ => 0))), (q_17, .inl (cI, 250, .inl (fun _ => 0))), (q_26, .inl (cI, 250, .inl (fun _ => 0)))] := hD
  refine lv_aload_n hx hb dX3_init_31 rfl (lv_at hl 0 rfl) ?_
  refine lv_sipush (v := (500 : Int32)) hx hb dX3_init_32 (by decide) ?_
  refine va_newa (atype := .int) (ty := .int) (N' := 500) (a0 := (500, .inl (fun _ => 0))) hx hb (hts (.arrayClass .int) (by decide +kernel)) rfl hK hP hD hS hA (fun _ => rfl) (by decide) (by decide) (by decide) (Nat.le_of_ble_eq_true rfl) (Nat.le_of_ble_eq_true rfl) dX3_init_35 (fun q_35 cA H hK hP hD hS => ?_)
  obtain rfl : cI = cA := ty_same hK
  have hK := hK.sub (tys' := [(cI, .int), (cZ, .boolean)]) [0, 1] rfl
  have hP : va_P (dC, dI) vwCl [(h_T, .inr (3, [.ref q_8, .ref q_17, .int 0, .ref q_26, .null])), (q_8, .inl (cI, 250, .inl (fun _ => 0))), (q_17, .inl (cI, 250, .inl (fun _ => 0))), (q_26, .inl (cI, 250, .inl (fun _ => 0))), (q_35, .inl (cI, 500, .inl (fun _ => 0)))] H := hP
  have hD : va_D A [(h_T, .inr (3, [.ref q_8, .ref q_17, .int 0, .ref q_26, .null])), (q_8, .inl (cI, 250, .inl (fun _ => 0))), (q_17, .inl (cI, 250, .inl (fun _ => 0))), (q_26, .inl (cI, 250, .inl (fun _ => 0))), (q_35, .inl (cI, 500, .inl (fun _ => 0)))] := hD
  refine W.widen (k := 4) (n := 1250) (Nat.le_refl _) (Nat.le_refl _) ?_
  refine va_putF (D := (dC, dI)) (ci := 3) (v := .ref q_35) (ty := .array .int) (C := RX3) (T := TX3) (N := 5) hx hb hts in_X3 tyX3 tyX3_ok nmX3 hown hK hP hD hS 0 rfl rfl 4 (by decide) (hts (.fieldLink RX3 21 "SameTerms$Terms" "useBefore" "[I") (by decide +kernel)) (fun _ h9 => h9) rfl hin rfl (by decide +kernel) rfl rfl (Nat.le_of_ble_eq_true rfl) dX3_init_37 (fun H locs hP hD hS => ?_)
  have hP : va_P (dC, dI) vwCl [(h_T, .inr (3, [.ref q_8, .ref q_17, .int 0, .ref q_26, .ref q_35])), (q_8, .inl (cI, 250, .inl (fun _ => 0))), (q_17, .inl (cI, 250, .inl (fun _ => 0))), (q_26, .inl (cI, 250, .inl (fun _ => 0))), (q_35, .inl (cI, 500, .inl (fun _ => 0)))] H := hP
  have hD : va_D A [(h_T, .inr (3, [.ref q_8, .ref q_17, .int 0, .ref q_26, .ref q_35])), (q_8, .inl (cI, 250, .inl (fun _ => 0))), (q_17, .inl (cI, 250, .inl (fun _ => 0))), (q_26, .inl (cI, 250, .inl (fun _ => 0))), (q_35, .inl (cI, 500, .inl (fun _ => 0)))] := hD
  exact W.vret hx hb hr (fun t ht hW => ⟨⟨(), rfl, trivial, q_8, q_17, q_26, q_35, by rw [ht]; exact hP, va_K.moved hW.alike hK, hD⟩, hS.F ht⟩) hS.2.2 dX3_init_40
set_option maxHeartbeats 4000000 in
set_option maxRecDepth 100000 in
theorem c_X2_init_60 (l : Launch) (dC : Nat → ClassId) (dI : Nat → Nat → Nat) (cI cZ : ClassId) (sz h_Q : Nat) : Met l yX2_init wsX2_init ({ frames := 1, cells := 2, slots := 120, locals := 21 }) (va_Pc [.ref h_Q, .int (60 : Int32)] (fun U => U.heap.size = sz ∧ va_P (dC, dI) vwCl [(h_Q, .inr (2, [.null, .null, .int 0]))] U.heap ∧ va_K (dC, dI) vwCl [(cI, .int), (cZ, .boolean)] U ∧ va_D (fun _ => True) [(h_Q, .inr (2, [.null, .null, .int 0]))])) (va_Qv (fun (u : Unit) => True) (fun (u : Unit) (t : State) => ∃ a_Q_left a_Q_right : Nat, va_P (dC, dI) vwCl [(h_Q, .inr (2, [.ref a_Q_left, .ref a_Q_right, .int (pa_total pa_0)])), (a_Q_left, .inl (cI, 60, .inl (pa_left pa_0))), (a_Q_right, .inl (cI, 60, .inl (pa_right pa_0)))] t.heap ∧ va_K (dC, dI) vwCl [(cI, .int), (cZ, .boolean)] t ∧ va_D (va_A [(h_Q, .inr (2, [.null, .null, .int 0]))] sz) [(h_Q, .inr (2, [.ref a_Q_left, .ref a_Q_right, .int (pa_total pa_0)])), (a_Q_left, .inl (cI, 60, .inl (pa_left pa_0))), (a_Q_right, .inl (cI, 60, .inl (pa_right pa_0)))]) (va_A [(h_Q, .inr (2, [.null, .null, .int 0]))] sz)) 2 120 (va_A [(h_Q, .inr (2, [.null, .null, .int 0]))] sz) := by
  refine Met.ofW (cc := cX2_init) (maxL := 3) (ret := none) (by decide) rfl ?_
  intro p e s m args below meth c s₁ B hml hv
  obtain ⟨rfl, hsz, hP, hK, hD0⟩ := hv
  have hx := B.exec
  have hb := B.bytes
  have hr := B.returns
  have hts := atoms_spec (ws := wsX2_init) B.pre
  have hown : s.vm.findClass RX2 = some m.cls := findClass_of_methodNamed B.named
  have hlocks := B.notSynchronized
  have hin : meth.name = "<init>" := (name_of_methodNamed B.named B.method).1
  subst hsz
  have hD := hD0.self (sz := s.heap.size)
  generalize hAe : va_A [(h_Q, .inr (2, [.null, .null, .int 0]))] s.heap.size = A at hD ⊢
  have hA : ∀ q : Nat, s.heap.size ≤ q → A q := fun q h => by rw [← hAe]; exact Or.inr h
  have hS : va_S A s.heap s.heap [] := va_S.rf
  have hP : va_P (dC, dI) vwCl [(h_Q, .inr (2, [.null, .null, .int 0]))] s.heap := hP
  have hl := lv_entry ([.ref h_Q, .int (60 : Int32)]) (n := 3) (Nat.le_of_ble_eq_true rfl)
  rw [lg_entry_eq]
  generalize (lg_sl ([.ref h_Q, .int (60 : Int32)]) ++ List.replicate (3 - (lg_sl ([.ref h_Q, .int (60 : Int32)])).length) Slot.unset).toArray = ls at hl ⊢
  have hl : lv_has ls 3 [(0, .ref h_Q), (1, .int (60 : Int32))] := hl
  have in_X2 : ∀ w ∈ wsX20, w ∈ wsX2_init := by decide +kernel
  refine lv_aload_n hx hb dX2_init_0 rfl (lv_at hl 0 rfl) ?_
  refine W.objInit hx hb hown (hts (.methodLink RX2 3 objectInit) (by decide +kernel)) (hts (.instanceMethod objectInit) (by decide +kernel)) (hts _ (List.mem_of_getElem? (i := 3) rfl)) rfl (by rw [hml]; exact hl.1) rfl dX2_init_1 (Nat.le_of_ble_eq_true rfl) (Nat.le_of_ble_eq_true rfl) ?_
  refine W.eq (g2 := F0 m 4 ls []) rfl ?_
  refine lv_iload_n hx hb dX2_init_4 rfl (lv_at hl 1 rfl) ?_
  refine lv_iconst (v := (0 : Int32)) hx hb dX2_init_5 (by decide) ?_
  refine va_mmax hx hb (hml.trans hl.1.symm) hown (hts (.methodLink RX2 9 Lib.Math.max.name) (by decide +kernel)) (hts (.static Lib.Math.max.name) (by decide +kernel)) (hts (.initialized "java/lang/Math") (by decide +kernel)) (hts (.code Lib.Math.max.name Lib.Math.max.code 2 (some .int)) (by decide +kernel)) (Nat.le_of_ble_eq_true rfl) (Nat.le_of_ble_eq_true rfl) (Nat.zero_le _) (Nat.zero_le _) dX2_init_6 ?_
  rw [show (if (60 : Int32) < (0 : Int32) then (0 : Int32) else (60 : Int32)) = (60 : Int32) by decide]
  refine lv_istore_n (lv' := [(2, .int (60 : Int32)), (0, .ref h_Q), (1, .int (60 : Int32))]) hx hb dX2_init_9 rfl hl (by decide) rfl (fun ls hl => ?_)
  refine lv_aload_n hx hb dX2_init_10 rfl (lv_at hl 1 rfl) ?_
  refine lv_iload_n hx hb dX2_init_11 rfl (lv_at hl 0 rfl) ?_
  refine va_newa (atype := .int) (ty := .int) (N' := 60) (a0 := (60, .inl (fun _ => 0))) hx hb (hts (.arrayClass .int) (by decide +kernel)) rfl hK hP hD hS hA (fun _ => rfl) (by decide) (by decide) (by decide) (Nat.le_of_ble_eq_true rfl) (Nat.le_of_ble_eq_true rfl) dX2_init_12 (fun q_12 cA H hK hP hD hS => ?_)
  obtain rfl : cI = cA := ty_same hK
  have hK := hK.sub (tys' := [(cI, .int), (cZ, .boolean)]) [0, 1] rfl
  have hP : va_P (dC, dI) vwCl [(h_Q, .inr (2, [.null, .null, .int 0])), (q_12, .inl (cI, 60, .inl (fun _ => 0)))] H := hP
  have hD : va_D A [(h_Q, .inr (2, [.null, .null, .int 0])), (q_12, .inl (cI, 60, .inl (fun _ => 0)))] := hD
  refine W.widen (k := 1) (n := 60) (Nat.le_refl _) (Nat.le_refl _) ?_
  refine va_putF (D := (dC, dI)) (ci := 2) (v := .ref q_12) (ty := .array .int) (C := RX2) (T := TX2) (N := 3) hx hb hts in_X2 tyX2 tyX2_ok nmX2 hown hK hP hD hS 0 rfl rfl 0 (by decide) (hts (.fieldLink RX2 15 "SameTerms$Pairs" "left" "[I") (by decide +kernel)) (fun _ h9 => h9) rfl hin rfl (by decide +kernel) rfl rfl (Nat.le_of_ble_eq_true rfl) dX2_init_14 (fun H locs hP hD hS => ?_)
  have hP : va_P (dC, dI) vwCl [(h_Q, .inr (2, [.ref q_12, .null, .int 0])), (q_12, .inl (cI, 60, .inl (fun _ => 0)))] H := hP
  have hD : va_D A [(h_Q, .inr (2, [.ref q_12, .null, .int 0])), (q_12, .inl (cI, 60, .inl (fun _ => 0)))] := hD
  refine lv_aload_n hx hb dX2_init_17 rfl (lv_at hl 1 rfl) ?_
  refine lv_iload_n hx hb dX2_init_18 rfl (lv_at hl 0 rfl) ?_
  refine va_newa (atype := .int) (ty := .int) (N' := 60) (a0 := (60, .inl (fun _ => 0))) hx hb (hts (.arrayClass .int) (by decide +kernel)) rfl hK hP hD hS hA (fun _ => rfl) (by decide) (by decide) (by decide) (Nat.le_of_ble_eq_true rfl) (Nat.le_of_ble_eq_true rfl) dX2_init_19 (fun q_19 cA H hK hP hD hS => ?_)
  obtain rfl : cI = cA := ty_same hK
  have hK := hK.sub (tys' := [(cI, .int), (cZ, .boolean)]) [0, 1] rfl
  have hP : va_P (dC, dI) vwCl [(h_Q, .inr (2, [.ref q_12, .null, .int 0])), (q_12, .inl (cI, 60, .inl (fun _ => 0))), (q_19, .inl (cI, 60, .inl (fun _ => 0)))] H := hP
  have hD : va_D A [(h_Q, .inr (2, [.ref q_12, .null, .int 0])), (q_12, .inl (cI, 60, .inl (fun _ => 0))), (q_19, .inl (cI, 60, .inl (fun _ => 0)))] := hD
  refine W.widen (k := 2) (n := 120) (Nat.le_refl _) (Nat.le_refl _) ?_
  refine va_putF (D := (dC, dI)) (ci := 2) (v := .ref q_19) (ty := .array .int) (C := RX2) (T := TX2) (N := 3) hx hb hts in_X2 tyX2 tyX2_ok nmX2 hown hK hP hD hS 0 rfl rfl 1 (by decide) (hts (.fieldLink RX2 21 "SameTerms$Pairs" "right" "[I") (by decide +kernel)) (fun _ h9 => h9) rfl hin rfl (by decide +kernel) rfl rfl (Nat.le_of_ble_eq_true rfl) dX2_init_21 (fun H locs hP hD hS => ?_)
  have hP : va_P (dC, dI) vwCl [(h_Q, .inr (2, [.ref q_12, .ref q_19, .int 0])), (q_12, .inl (cI, 60, .inl (fun _ => 0))), (q_19, .inl (cI, 60, .inl (fun _ => 0)))] H := hP
  have hD : va_D A [(h_Q, .inr (2, [.ref q_12, .ref q_19, .int 0])), (q_12, .inl (cI, 60, .inl (fun _ => 0))), (q_19, .inl (cI, 60, .inl (fun _ => 0)))] := hD
  exact W.vret hx hb hr (fun t ht hW => ⟨⟨(), rfl, trivial, q_12, q_19, by rw [ht]; exact hP, va_K.moved hW.alike hK, hD⟩, hS.F ht⟩) hS.2.2 dX2_init_24
set_option maxHeartbeats 4000000 in
set_option maxRecDepth 100000 in
theorem c_X2_init_30 (l : Launch) (dC : Nat → ClassId) (dI : Nat → Nat → Nat) (cI cZ : ClassId) (sz h_D : Nat) : Met l yX2_init wsX2_init ({ frames := 1, cells := 2, slots := 60, locals := 21 }) (va_Pc [.ref h_D, .int (30 : Int32)] (fun U => U.heap.size = sz ∧ va_P (dC, dI) vwCl [(h_D, .inr (2, [.null, .null, .int 0]))] U.heap ∧ va_K (dC, dI) vwCl [(cI, .int), (cZ, .boolean)] U ∧ va_D (fun _ => True) [(h_D, .inr (2, [.null, .null, .int 0]))])) (va_Qv (fun (u : Unit) => True) (fun (u : Unit) (t : State) => ∃ a_D_left a_D_right : Nat, va_P (dC, dI) vwCl [(h_D, .inr (2, [.ref a_D_left, .ref a_D_right, .int (pa_total pa_0)])), (a_D_left, .inl (cI, 30, .inl (pa_left pa_0))), (a_D_right, .inl (cI, 30, .inl (pa_right pa_0)))] t.heap ∧ va_K (dC, dI) vwCl [(cI, .int), (cZ, .boolean)] t ∧ va_D (va_A [(h_D, .inr (2, [.null, .null, .int 0]))] sz) [(h_D, .inr (2, [.ref a_D_left, .ref a_D_right, .int (pa_total pa_0)])), (a_D_left, .inl (cI, 30, .inl (pa_left pa_0))), (a_D_right, .inl (cI, 30, .inl (pa_right pa_0)))]) (va_A [(h_D, .inr (2, [.null, .null, .int 0]))] sz)) 2 60 (va_A [(h_D, .inr (2, [.null, .null, .int 0]))] sz) := by
  refine Met.ofW (cc := cX2_init) (maxL := 3) (ret := none) (by decide) rfl ?_
  intro p e s m args below meth c s₁ B hml hv
  obtain ⟨rfl, hsz, hP, hK, hD0⟩ := hv
  have hx := B.exec
  have hb := B.bytes
  have hr := B.returns
  have hts := atoms_spec (ws := wsX2_init) B.pre
  have hown : s.vm.findClass RX2 = some m.cls := findClass_of_methodNamed B.named
  have hlocks := B.notSynchronized
  have hin : meth.name = "<init>" := (name_of_methodNamed B.named B.method).1
  subst hsz
  have hD := hD0.self (sz := s.heap.size)
  generalize hAe : va_A [(h_D, .inr (2, [.null, .null, .int 0]))] s.heap.size = A at hD ⊢
  have hA : ∀ q : Nat, s.heap.size ≤ q → A q := fun q h => by rw [← hAe]; exact Or.inr h
  have hS : va_S A s.heap s.heap [] := va_S.rf
  have hP : va_P (dC, dI) vwCl [(h_D, .inr (2, [.null, .null, .int 0]))] s.heap := hP
  have hl := lv_entry ([.ref h_D, .int (30 : Int32)]) (n := 3) (Nat.le_of_ble_eq_true rfl)
  rw [lg_entry_eq]
  generalize (lg_sl ([.ref h_D, .int (30 : Int32)]) ++ List.replicate (3 - (lg_sl ([.ref h_D, .int (30 : Int32)])).length) Slot.unset).toArray = ls at hl ⊢
  have hl : lv_has ls 3 [(0, .ref h_D), (1, .int (30 : Int32))] := hl
  have in_X2 : ∀ w ∈ wsX20, w ∈ wsX2_init := by decide +kernel
  refine lv_aload_n hx hb dX2_init_0 rfl (lv_at hl 0 rfl) ?_
  refine W.objInit hx hb hown (hts (.methodLink RX2 3 objectInit) (by decide +kernel)) (hts (.instanceMethod objectInit) (by decide +kernel)) (hts _ (List.mem_of_getElem? (i := 3) rfl)) rfl (by rw [hml]; exact hl.1) rfl dX2_init_1 (Nat.le_of_ble_eq_true rfl) (Nat.le_of_ble_eq_true rfl) ?_
  refine W.eq (g2 := F0 m 4 ls []) rfl ?_
  refine lv_iload_n hx hb dX2_init_4 rfl (lv_at hl 1 rfl) ?_
  refine lv_iconst (v := (0 : Int32)) hx hb dX2_init_5 (by decide) ?_
  refine va_mmax hx hb (hml.trans hl.1.symm) hown (hts (.methodLink RX2 9 Lib.Math.max.name) (by decide +kernel)) (hts (.static Lib.Math.max.name) (by decide +kernel)) (hts (.initialized "java/lang/Math") (by decide +kernel)) (hts (.code Lib.Math.max.name Lib.Math.max.code 2 (some .int)) (by decide +kernel)) (Nat.le_of_ble_eq_true rfl) (Nat.le_of_ble_eq_true rfl) (Nat.zero_le _) (Nat.zero_le _) dX2_init_6 ?_
  rw [show (if (30 : Int32) < (0 : Int32) then (0 : Int32) else (30 : Int32)) = (30 : Int32) by decide]
  refine lv_istore_n (lv' := [(2, .int (30 : Int32)), (0, .ref h_D), (1, .int (30 : Int32))]) hx hb dX2_init_9 rfl hl (by decide) rfl (fun ls hl => ?_)
  refine lv_aload_n hx hb dX2_init_10 rfl (lv_at hl 1 rfl) ?_
  refine lv_iload_n hx hb dX2_init_11 rfl (lv_at hl 0 rfl) ?_
  refine va_newa (atype := .int) (ty := .int) (N' := 30) (a0 := (30, .inl (fun _ => 0))) hx hb (hts (.arrayClass .int) (by decide +kernel)) rfl hK hP hD hS hA (fun _ => rfl) (by decide) (by decide) (by decide) (Nat.le_of_ble_eq_true rfl) (Nat.le_of_ble_eq_true rfl) dX2_init_12 (fun q_12 cA H hK hP hD hS => ?_)
  obtain rfl : cI = cA := ty_same hK
  have hK := hK.sub (tys' := [(cI, .int), (cZ, .boolean)]) [0, 1] rfl
  have hP : va_P (dC, dI) vwCl [(h_D, .inr (2, [.null, .null, .int 0])), (q_12, .inl (cI, 30, .inl (fun _ => 0)))] H := hP
  have hD : va_D A [(h_D, .inr (2, [.null, .null, .int 0])), (q_12, .inl (cI, 30, .inl (fun _ => 0)))] := hD
  refine W.widen (k := 1) (n := 30) (Nat.le_refl _) (Nat.le_refl _) ?_
  refine va_putF (D := (dC, dI)) (ci := 2) (v := .ref q_12) (ty := .array .int) (C := RX2) (T := TX2) (N := 3) hx hb hts in_X2 tyX2 tyX2_ok nmX2 hown hK hP hD hS 0 rfl rfl 0 (by decide) (hts (.fieldLink RX2 15 "SameTerms$Pairs" "left" "[I") (by decide +kernel)) (fun _ h9 => h9) rfl hin rfl (by decide +kernel) rfl rfl (Nat.le_of_ble_eq_true rfl) dX2_init_14 (fun H locs hP hD hS => ?_)
  have hP : va_P (dC, dI) vwCl [(h_D, .inr (2, [.ref q_12, .null, .int 0])), (q_12, .inl (cI, 30, .inl (fun _ => 0)))] H := hP
  have hD : va_D A [(h_D, .inr (2, [.ref q_12, .null, .int 0])), (q_12, .inl (cI, 30, .inl (fun _ => 0)))] := hD
  refine lv_aload_n hx hb dX2_init_17 rfl (lv_at hl 1 rfl) ?_
  refine lv_iload_n hx hb dX2_init_18 rfl (lv_at hl 0 rfl) ?_
  refine va_newa (atype := .int) (ty := .int) (N' := 30) (a0 := (30, .inl (fun _ => 0))) hx hb (hts (.arrayClass .int) (by decide +kernel)) rfl hK hP hD hS hA (fun _ => rfl) (by decide) (by decide) (by decide) (Nat.le_of_ble_eq_true rfl) (Nat.le_of_ble_eq_true rfl) dX2_init_19 (fun q_19 cA H hK hP hD hS => ?_)
  obtain rfl : cI = cA := ty_same hK
  have hK := hK.sub (tys' := [(cI, .int), (cZ, .boolean)]) [0, 1] rfl
  have hP : va_P (dC, dI) vwCl [(h_D, .inr (2, [.ref q_12, .null, .int 0])), (q_12, .inl (cI, 30, .inl (fun _ => 0))), (q_19, .inl (cI, 30, .inl (fun _ => 0)))] H := hP
  have hD : va_D A [(h_D, .inr (2, [.ref q_12, .null, .int 0])), (q_12, .inl (cI, 30, .inl (fun _ => 0))), (q_19, .inl (cI, 30, .inl (fun _ => 0)))] := hD
  refine W.widen (k := 2) (n := 60) (Nat.le_refl _) (Nat.le_refl _) ?_
  refine va_putF (D := (dC, dI)) (ci := 2) (v := .ref q_19) (ty := .array .int) (C := RX2) (T := TX2) (N := 3) hx hb hts in_X2 tyX2 tyX2_ok nmX2 hown hK hP hD hS 0 rfl rfl 1 (by decide) (hts (.fieldLink RX2 21 "SameTerms$Pairs" "right" "[I") (by decide +kernel)) (fun _ h9 => h9) rfl hin rfl (by decide +kernel) rfl rfl (Nat.le_of_ble_eq_true rfl) dX2_init_21 (fun H locs hP hD hS => ?_)
  have hP : va_P (dC, dI) vwCl [(h_D, .inr (2, [.ref q_12, .ref q_19, .int 0])), (q_12, .inl (cI, 30, .inl (fun _ => 0))), (q_19, .inl (cI, 30, .inl (fun _ => 0)))] H := hP
  have hD : va_D A [(h_D, .inr (2, [.ref q_12, .ref q_19, .int 0])), (q_12, .inl (cI, 30, .inl (fun _ => 0))), (q_19, .inl (cI, 30, .inl (fun _ => 0)))] := hD
  exact W.vret hx hb hr (fun t ht hW => ⟨⟨(), rfl, trivial, q_12, q_19, by rw [ht]; exact hP, va_K.moved hW.alike hK, hD⟩, hS.F ht⟩) hS.2.2 dX2_init_24
set_option maxHeartbeats 4000000 in
set_option maxRecDepth 100000 in
theorem c_X5_init (l : Launch) (dC : Nat → ClassId) (dI : Nat → Nat → Nat) (cI cZ : ClassId) (sz h_M : Nat) : Met l yX5_init wsX5_init ({ frames := 1, cells := 9, slots := 1430, locals := 12 }) (va_Pc [.ref h_M] (fun U => U.heap.size = sz ∧ va_P (dC, dI) vwCl [(h_M, .inr (5, [.int 0, .null, .null, .int 0, .null, .null, .int 0, .null, .null, .null, .null, .null, .int 0]))] U.heap ∧ va_K (dC, dI) vwCl [(cI, .int), (cZ, .boolean)] U ∧ va_D (fun _ => True) [(h_M, .inr (5, [.int 0, .null, .null, .int 0, .null, .null, .int 0, .null, .null, .null, .null, .null, .int 0]))])) (va_Qv (fun (u : Unit) => True) (fun (u : Unit) (t : State) => ∃ a_M_first a_M_second a_M_left a_M_right a_M_one a_M_other a_M_label a_M_before a_M_applications : Nat, va_P (dC, dI) vwCl [(h_M, .inr (5, [.int (mo_terms mo_0), .ref a_M_first, .ref a_M_second, .int (mo_equations mo_0), .ref a_M_left, .ref a_M_right, .int (mo_differences mo_0), .ref a_M_one, .ref a_M_other, .ref a_M_label, .ref a_M_before, .ref a_M_applications, .int (mo_applied mo_0)])), (a_M_first, .inl (cI, 250, .inl (mo_first mo_0))), (a_M_second, .inl (cI, 250, .inl (mo_second mo_0))), (a_M_left, .inl (cI, 60, .inl (mo_left mo_0))), (a_M_right, .inl (cI, 60, .inl (mo_right mo_0))), (a_M_one, .inl (cI, 30, .inl (mo_one mo_0))), (a_M_other, .inl (cI, 30, .inl (mo_other mo_0))), (a_M_label, .inl (cI, 250, .inl (mo_label mo_0))), (a_M_before, .inl (cI, 250, .inl (mo_before mo_0))), (a_M_applications, .inl (cI, 250, .inl (mo_applications mo_0)))] t.heap ∧ va_K (dC, dI) vwCl [(cI, .int), (cZ, .boolean)] t ∧ va_D (va_A [(h_M, .inr (5, [.int 0, .null, .null, .int 0, .null, .null, .int 0, .null, .null, .null, .null, .null, .int 0]))] sz) [(h_M, .inr (5, [.int (mo_terms mo_0), .ref a_M_first, .ref a_M_second, .int (mo_equations mo_0), .ref a_M_left, .ref a_M_right, .int (mo_differences mo_0), .ref a_M_one, .ref a_M_other, .ref a_M_label, .ref a_M_before, .ref a_M_applications, .int (mo_applied mo_0)])), (a_M_first, .inl (cI, 250, .inl (mo_first mo_0))), (a_M_second, .inl (cI, 250, .inl (mo_second mo_0))), (a_M_left, .inl (cI, 60, .inl (mo_left mo_0))), (a_M_right, .inl (cI, 60, .inl (mo_right mo_0))), (a_M_one, .inl (cI, 30, .inl (mo_one mo_0))), (a_M_other, .inl (cI, 30, .inl (mo_other mo_0))), (a_M_label, .inl (cI, 250, .inl (mo_label mo_0))), (a_M_before, .inl (cI, 250, .inl (mo_before mo_0))), (a_M_applications, .inl (cI, 250, .inl (mo_applications mo_0)))]) (va_A [(h_M, .inr (5, [.int 0, .null, .null, .int 0, .null, .null, .int 0, .null, .null, .null, .null, .null, .int 0]))] sz)) 9 1430 (va_A [(h_M, .inr (5, [.int 0, .null, .null, .int 0, .null, .null, .int 0, .null, .null, .null, .null, .null, .int 0]))] sz) := by
  refine Met.ofW (cc := cX5_init) (maxL := 1) (ret := none) (by decide) rfl ?_
  intro p e s m args below meth c s₁ B hml hv
  obtain ⟨rfl, hsz, hP, hK, hD0⟩ := hv
  have hx := B.exec
  have hb := B.bytes
  have hr := B.returns
  have hts := atoms_spec (ws := wsX5_init) B.pre
  have hown : s.vm.findClass RX5 = some m.cls := findClass_of_methodNamed B.named
  have hlocks := B.notSynchronized
  have hin : meth.name = "<init>" := (name_of_methodNamed B.named B.method).1
  subst hsz
  have hD := hD0.self (sz := s.heap.size)
  generalize hAe : va_A [(h_M, .inr (5, [.int 0, .null, .null, .int 0, .null, .null, .int 0, .null, .null, .null, .null, .null, .int 0]))] s.heap.size = A at hD ⊢
  have hA : ∀ q : Nat, s.heap.size ≤ q → A q := fun q h => by rw [← hAe]; exact Or.inr h
  have hS : va_S A s.heap s.heap [] := va_S.rf
  have hP : va_P (dC, dI) vwCl [(h_M, .inr (5, [.int 0, .null, .null, .int 0, .null, .null, .int 0, .null, .null, .null, .null, .null, .int 0]))] s.heap := hP
  have hl := lv_entry ([.ref h_M]) (n := 1) (Nat.le_of_ble_eq_true rfl)
  rw [lg_entry_eq]
  generalize (lg_sl ([.ref h_M]) ++ List.replicate (1 - (lg_sl ([.ref h_M])).length) Slot.unset).toArray = ls at hl ⊢
  have hl : lv_has ls 1 [(0, .ref h_M)] := hl
  have in_X5 : ∀ w ∈ wsX50, w ∈ wsX5_init := by decide +kernel
  refine lv_aload_n hx hb dX5_init_0 rfl (lv_at hl 0 rfl) ?_
  refine W.objInit hx hb hown (hts (.methodLink RX5 1 objectInit) (by decide +kernel)) (hts (.instanceMethod objectInit) (by decide +kernel)) (hts _ (List.mem_of_getElem? (i := 3) rfl)) rfl (by rw [hml]; exact hl.1) rfl dX5_init_1 (Nat.le_of_ble_eq_true rfl) (Nat.le_of_ble_eq_true rfl) ?_
  refine W.eq (g2 := F0 m 4 ls []) rfl ?_
  refine lv_aload_n hx hb dX5_init_4 rfl (lv_at hl 0 rfl) ?_
  refine lv_sipush (v := (250 : Int32)) hx hb dX5_init_5 (by decide) ?_
  refine va_newa (atype := .int) (ty := .int) (N' := 250) (a0 := (250, .inl (fun _ => 0))) hx hb (hts (.arrayClass .int) (by decide +kernel)) rfl hK hP hD hS hA (fun _ => rfl) (by decide) (by decide) (by decide) (Nat.le_of_ble_eq_true rfl) (Nat.le_of_ble_eq_true rfl) dX5_init_8 (fun q_8 cA H hK hP hD hS => ?_)
  obtain rfl : cI = cA := ty_same hK
  have hK := hK.sub (tys' := [(cI, .int), (cZ, .boolean)]) [0, 1] rfl
  have hP : va_P (dC, dI) vwCl [(h_M, .inr (5, [.int 0, .null, .null, .int 0, .null, .null, .int 0, .null, .null, .null, .null, .null, .int 0])), (q_8, .inl (cI, 250, .inl (fun _ => 0)))] H := hP
  have hD : va_D A [(h_M, .inr (5, [.int 0, .null, .null, .int 0, .null, .null, .int 0, .null, .null, .null, .null, .null, .int 0])), (q_8, .inl (cI, 250, .inl (fun _ => 0)))] := hD
  refine W.widen (k := 1) (n := 250) (Nat.le_refl _) (Nat.le_refl _) ?_
  refine va_putF (D := (dC, dI)) (ci := 5) (v := .ref q_8) (ty := .array .int) (C := RX5) (T := TX5) (N := 13) hx hb hts in_X5 tyX5 tyX5_ok nmX5 hown hK hP hD hS 0 rfl rfl 1 (by decide) (hts (.fieldLink RX5 7 "SameTermsModel" "first" "[I") (by decide +kernel)) (fun _ h9 => h9) rfl hin rfl (by decide +kernel) rfl rfl (Nat.le_of_ble_eq_true rfl) dX5_init_10 (fun H locs hP hD hS => ?_)
  have hP : va_P (dC, dI) vwCl [(h_M, .inr (5, [.int 0, .ref q_8, .null, .int 0, .null, .null, .int 0, .null, .null, .null, .null, .null, .int 0])), (q_8, .inl (cI, 250, .inl (fun _ => 0)))] H := hP
  have hD : va_D A [(h_M, .inr (5, [.int 0, .ref q_8, .null, .int 0, .null, .null, .int 0, .null, .null, .null, .null, .null, .int 0])), (q_8, .inl (cI, 250, .inl (fun _ => 0)))] := hD
  refine lv_aload_n hx hb dX5_init_13 rfl (lv_at hl 0 rfl) ?_
  refine lv_sipush (v := (250 : Int32)) hx hb dX5_init_14 (by decide) ?_
  refine va_newa (atype := .int) (ty := .int) (N' := 250) (a0 := (250, .inl (fun _ => 0))) hx hb (hts (.arrayClass .int) (by decide +kernel)) rfl hK hP hD hS hA (fun _ => rfl) (by decide) (by decide) (by decide) (Nat.le_of_ble_eq_true rfl) (Nat.le_of_ble_eq_true rfl) dX5_init_17 (fun q_17 cA H hK hP hD hS => ?_)
  obtain rfl : cI = cA := ty_same hK
  have hK := hK.sub (tys' := [(cI, .int), (cZ, .boolean)]) [0, 1] rfl
  have hP : va_P (dC, dI) vwCl [(h_M, .inr (5, [.int 0, .ref q_8, .null, .int 0, .null, .null, .int 0, .null, .null, .null, .null, .null, .int 0])), (q_8, .inl (cI, 250, .inl (fun _ => 0))), (q_17, .inl (cI, 250, .inl (fun _ => 0)))] H := hP
  have hD : va_D A [(h_M, .inr (5, [.int 0, .ref q_8, .null, .int 0, .null, .null, .int 0, .null, .null, .null, .null, .null, .int 0])), (q_8, .inl (cI, 250, .inl (fun _ => 0))), (q_17, .inl (cI, 250, .inl (fun _ => 0)))] := hD
  refine W.widen (k := 2) (n := 500) (Nat.le_refl _) (Nat.le_refl _) ?_
  refine va_putF (D := (dC, dI)) (ci := 5) (v := .ref q_17) (ty := .array .int) (C := RX5) (T := TX5) (N := 13) hx hb hts in_X5 tyX5 tyX5_ok nmX5 hown hK hP hD hS 0 rfl rfl 2 (by decide) (hts (.fieldLink RX5 13 "SameTermsModel" "second" "[I") (by decide +kernel)) (fun _ h9 => h9) rfl hin rfl (by decide +kernel) rfl rfl (Nat.le_of_ble_eq_true rfl) dX5_init_19 (fun H locs hP hD hS => ?_)
  have hP : va_P (dC, dI) vwCl [(h_M, .inr (5, [.int 0, .ref q_8, .ref q_17, .int 0, .null, .null, .int 0, .null, .null, .null, .null, .null, .int 0])), (q_8, .inl (cI, 250, .inl (fun _ => 0))), (q_17, .inl (cI, 250, .inl (fun _ => 0)))] H := hP
  have hD : va_D A [(h_M, .inr (5, [.int 0, .ref q_8, .ref q_17, .int 0, .null, .null, .int 0, .null, .null, .null, .null, .null, .int 0])), (q_8, .inl (cI, 250, .inl (fun _ => 0))), (q_17, .inl (cI, 250, .inl (fun _ => 0)))] := hD
  refine lv_aload_n hx hb dX5_init_22 rfl (lv_at hl 0 rfl) ?_
  refine lv_bipush (v := (60 : Int32)) hx hb dX5_init_23 (by decide) ?_
  refine va_newa (atype := .int) (ty := .int) (N' := 60) (a0 := (60, .inl (fun _ => 0))) hx hb (hts (.arrayClass .int) (by decide +kernel)) rfl hK hP hD hS hA (fun _ => rfl) (by decide) (by decide) (by decide) (Nat.le_of_ble_eq_true rfl) (Nat.le_of_ble_eq_true rfl) dX5_init_25 (fun q_25 cA H hK hP hD hS => ?_)
  obtain rfl : cI = cA := ty_same hK
  have hK := hK.sub (tys' := [(cI, .int), (cZ, .boolean)]) [0, 1] rfl
  have hP : va_P (dC, dI) vwCl [(h_M, .inr (5, [.int 0, .ref q_8, .ref q_17, .int 0, .null, .null, .int 0, .null, .null, .null, .null, .null, .int 0])), (q_8, .inl (cI, 250, .inl (fun _ => 0))), (q_17, .inl (cI, 250, .inl (fun _ => 0))), (q_25, .inl (cI, 60, .inl (fun _ => 0)))] H := hP
  have hD : va_D A [(h_M, .inr (5, [.int 0, .ref q_8, .ref q_17, .int 0, .null, .null, .int 0, .null, .null, .null, .null, .null, .int 0])), (q_8, .inl (cI, 250, .inl (fun _ => 0))), (q_17, .inl (cI, 250, .inl (fun _ => 0))), (q_25, .inl (cI, 60, .inl (fun _ => 0)))] := hD
  refine W.widen (k := 3) (n := 560) (Nat.le_refl _) (Nat.le_refl _) ?_
  refine va_putF (D := (dC, dI)) (ci := 5) (v := .ref q_25) (ty := .array .int) (C := RX5) (T := TX5) (N := 13) hx hb hts in_X5 tyX5 tyX5_ok nmX5 hown hK hP hD hS 0 rfl rfl 4 (by decide) (hts (.fieldLink RX5 16 "SameTermsModel" "left" "[I") (by decide +kernel)) (fun _ h9 => h9) rfl hin rfl (by decide +kernel) rfl rfl (Nat.le_of_ble_eq_true rfl) dX5_init_27 (fun H locs hP hD hS => ?_)
  have hP : va_P (dC, dI) vwCl [(h_M, .inr (5, [.int 0, .ref q_8, .ref q_17, .int 0, .ref q_25, .null, .int 0, .null, .null, .null, .null, .null, .int 0])), (q_8, .inl (cI, 250, .inl (fun _ => 0))), (q_17, .inl (cI, 250, .inl (fun _ => 0))), (q_25, .inl (cI, 60, .inl (fun _ => 0)))] H := hP
  have hD : va_D A [(h_M, .inr (5, [.int 0, .ref q_8, .ref q_17, .int 0, .ref q_25, .null, .int 0, .null, .null, .null, .null, .null, .int 0])), (q_8, .inl (cI, 250, .inl (fun _ => 0))), (q_17, .inl (cI, 250, .inl (fun _ => 0))), (q_25, .inl (cI, 60, .inl (fun _ => 0)))] := hD
  refine lv_aload_n hx hb dX5_init_30 rfl (lv_at hl 0 rfl) ?_
  refine lv_bipush (v := (60 : Int32)) hx hb dX5_init_31 (by decide) ?_
  refine va_newa (atype := .int) (ty := .int) (N' := 60) (a0 := (60, .inl (fun _ => 0))) hx hb (hts (.arrayClass .int) (by decide +kernel)) rfl hK hP hD hS hA (fun _ => rfl) (by decide) (by decide) (by decide) (Nat.le_of_ble_eq_true rfl) (Nat.le_of_ble_eq_true rfl) dX5_init_33 (fun q_33 cA H hK hP hD hS => ?_)
  obtain rfl : cI = cA := ty_same hK
  have hK := hK.sub (tys' := [(cI, .int), (cZ, .boolean)]) [0, 1] rfl
  have hP : va_P (dC, dI) vwCl [(h_M, .inr (5, [.int 0, .ref q_8, .ref q_17, .int 0, .ref q_25, .null, .int 0, .null, .null, .null, .null, .null, .int 0])), (q_8, .inl (cI, 250, .inl (fun _ => 0))), (q_17, .inl (cI, 250, .inl (fun _ => 0))), (q_25, .inl (cI, 60, .inl (fun _ => 0))), (q_33, .inl (cI, 60, .inl (fun _ => 0)))] H := hP
  have hD : va_D A [(h_M, .inr (5, [.int 0, .ref q_8, .ref q_17, .int 0, .ref q_25, .null, .int 0, .null, .null, .null, .null, .null, .int 0])), (q_8, .inl (cI, 250, .inl (fun _ => 0))), (q_17, .inl (cI, 250, .inl (fun _ => 0))), (q_25, .inl (cI, 60, .inl (fun _ => 0))), (q_33, .inl (cI, 60, .inl (fun _ => 0)))] := hD
  refine W.widen (k := 4) (n := 620) (Nat.le_refl _) (Nat.le_refl _) ?_
  refine va_putF (D := (dC, dI)) (ci := 5) (v := .ref q_33) (ty := .array .int) (C := RX5) (T := TX5) (N := 13) hx hb hts in_X5 tyX5 tyX5_ok nmX5 hown hK hP hD hS 0 rfl rfl 5 (by decide) (hts (.fieldLink RX5 19 "SameTermsModel" "right" "[I") (by decide +kernel)) (fun _ h9 => h9) rfl hin rfl (by decide +kernel) rfl rfl (Nat.le_of_ble_eq_true rfl) dX5_init_35 (fun H locs hP hD hS => ?_)
  have hP : va_P (dC, dI) vwCl [(h_M, .inr (5, [.int 0, .ref q_8, .ref q_17, .int 0, .ref q_25, .ref q_33, .int 0, .null, .null, .null, .null, .null, .int 0])), (q_8, .inl (cI, 250, .inl (fun _ => 0))), (q_17, .inl (cI, 250, .inl (fun _ => 0))), (q_25, .inl (cI, 60, .inl (fun _ => 0))), (q_33, .inl (cI, 60, .inl (fun _ => 0)))] H := hP
  have hD : va_D A [(h_M, .inr (5, [.int 0, .ref q_8, .ref q_17, .int 0, .ref q_25, .ref q_33, .int 0, .null, .null, .null, .null, .null, .int 0])), (q_8, .inl (cI, 250, .inl (fun _ => 0))), (q_17, .inl (cI, 250, .inl (fun _ => 0))), (q_25, .inl (cI, 60, .inl (fun _ => 0))), (q_33, .inl (cI, 60, .inl (fun _ => 0)))] := hD
  refine lv_aload_n hx hb dX5_init_38 rfl (lv_at hl 0 rfl) ?_
  refine lv_bipush (v := (30 : Int32)) hx hb dX5_init_39 (by decide) ?_
  refine va_newa (atype := .int) (ty := .int) (N' := 30) (a0 := (30, .inl (fun _ => 0))) hx hb (hts (.arrayClass .int) (by decide +kernel)) rfl hK hP hD hS hA (fun _ => rfl) (by decide) (by decide) (by decide) (Nat.le_of_ble_eq_true rfl) (Nat.le_of_ble_eq_true rfl) dX5_init_41 (fun q_41 cA H hK hP hD hS => ?_)
  obtain rfl : cI = cA := ty_same hK
  have hK := hK.sub (tys' := [(cI, .int), (cZ, .boolean)]) [0, 1] rfl
  have hP : va_P (dC, dI) vwCl [(h_M, .inr (5, [.int 0, .ref q_8, .ref q_17, .int 0, .ref q_25, .ref q_33, .int 0, .null, .null, .null, .null, .null, .int 0])), (q_8, .inl (cI, 250, .inl (fun _ => 0))), (q_17, .inl (cI, 250, .inl (fun _ => 0))), (q_25, .inl (cI, 60, .inl (fun _ => 0))), (q_33, .inl (cI, 60, .inl (fun _ => 0))), (q_41, .inl (cI, 30, .inl (fun _ => 0)))] H := hP
  have hD : va_D A [(h_M, .inr (5, [.int 0, .ref q_8, .ref q_17, .int 0, .ref q_25, .ref q_33, .int 0, .null, .null, .null, .null, .null, .int 0])), (q_8, .inl (cI, 250, .inl (fun _ => 0))), (q_17, .inl (cI, 250, .inl (fun _ => 0))), (q_25, .inl (cI, 60, .inl (fun _ => 0))), (q_33, .inl (cI, 60, .inl (fun _ => 0))), (q_41, .inl (cI, 30, .inl (fun _ => 0)))] := hD
  refine W.widen (k := 5) (n := 650) (Nat.le_refl _) (Nat.le_refl _) ?_
  refine va_putF (D := (dC, dI)) (ci := 5) (v := .ref q_41) (ty := .array .int) (C := RX5) (T := TX5) (N := 13) hx hb hts in_X5 tyX5 tyX5_ok nmX5 hown hK hP hD hS 0 rfl rfl 7 (by decide) (hts (.fieldLink RX5 22 "SameTermsModel" "one" "[I") (by decide +kernel)) (fun _ h9 => h9) rfl hin rfl (by decide +kernel) rfl rfl (Nat.le_of_ble_eq_true rfl) dX5_init_43 (fun H locs hP hD hS => ?_)
  have hP : va_P (dC, dI) vwCl [(h_M, .inr (5, [.int 0, .ref q_8, .ref q_17, .int 0, .ref q_25, .ref q_33, .int 0, .ref q_41, .null, .null, .null, .null, .int 0])), (q_8, .inl (cI, 250, .inl (fun _ => 0))), (q_17, .inl (cI, 250, .inl (fun _ => 0))), (q_25, .inl (cI, 60, .inl (fun _ => 0))), (q_33, .inl (cI, 60, .inl (fun _ => 0))), (q_41, .inl (cI, 30, .inl (fun _ => 0)))] H := hP
  have hD : va_D A [(h_M, .inr (5, [.int 0, .ref q_8, .ref q_17, .int 0, .ref q_25, .ref q_33, .int 0, .ref q_41, .null, .null, .null, .null, .int 0])), (q_8, .inl (cI, 250, .inl (fun _ => 0))), (q_17, .inl (cI, 250, .inl (fun _ => 0))), (q_25, .inl (cI, 60, .inl (fun _ => 0))), (q_33, .inl (cI, 60, .inl (fun _ => 0))), (q_41, .inl (cI, 30, .inl (fun _ => 0)))] := hD
  refine lv_aload_n hx hb dX5_init_46 rfl (lv_at hl 0 rfl) ?_
  refine lv_bipush (v := (30 : Int32)) hx hb dX5_init_47 (by decide) ?_
  refine va_newa (atype := .int) (ty := .int) (N' := 30) (a0 := (30, .inl (fun _ => 0))) hx hb (hts (.arrayClass .int) (by decide +kernel)) rfl hK hP hD hS hA (fun _ => rfl) (by decide) (by decide) (by decide) (Nat.le_of_ble_eq_true rfl) (Nat.le_of_ble_eq_true rfl) dX5_init_49 (fun q_49 cA H hK hP hD hS => ?_)
  obtain rfl : cI = cA := ty_same hK
  have hK := hK.sub (tys' := [(cI, .int), (cZ, .boolean)]) [0, 1] rfl
  have hP : va_P (dC, dI) vwCl [(h_M, .inr (5, [.int 0, .ref q_8, .ref q_17, .int 0, .ref q_25, .ref q_33, .int 0, .ref q_41, .null, .null, .null, .null, .int 0])), (q_8, .inl (cI, 250, .inl (fun _ => 0))), (q_17, .inl (cI, 250, .inl (fun _ => 0))), (q_25, .inl (cI, 60, .inl (fun _ => 0))), (q_33, .inl (cI, 60, .inl (fun _ => 0))), (q_41, .inl (cI, 30, .inl (fun _ => 0))), (q_49, .inl (cI, 30, .inl (fun _ => 0)))] H := hP
  have hD : va_D A [(h_M, .inr (5, [.int 0, .ref q_8, .ref q_17, .int 0, .ref q_25, .ref q_33, .int 0, .ref q_41, .null, .null, .null, .null, .int 0])), (q_8, .inl (cI, 250, .inl (fun _ => 0))), (q_17, .inl (cI, 250, .inl (fun _ => 0))), (q_25, .inl (cI, 60, .inl (fun _ => 0))), (q_33, .inl (cI, 60, .inl (fun _ => 0))), (q_41, .inl (cI, 30, .inl (fun _ => 0))), (q_49, .inl (cI, 30, .inl (fun _ => 0)))] := hD
  refine W.widen (k := 6) (n := 680) (Nat.le_refl _) (Nat.le_refl _) ?_
  refine va_putF (D := (dC, dI)) (ci := 5) (v := .ref q_49) (ty := .array .int) (C := RX5) (T := TX5) (N := 13) hx hb hts in_X5 tyX5 tyX5_ok nmX5 hown hK hP hD hS 0 rfl rfl 8 (by decide) (hts (.fieldLink RX5 25 "SameTermsModel" "other" "[I") (by decide +kernel)) (fun _ h9 => h9) rfl hin rfl (by decide +kernel) rfl rfl (Nat.le_of_ble_eq_true rfl) dX5_init_51 (fun H locs hP hD hS => ?_)
  have hP : va_P (dC, dI) vwCl [(h_M, .inr (5, [.int 0, .ref q_8, .ref q_17, .int 0, .ref q_25, .ref q_33, .int 0, .ref q_41, .ref q_49, .null, .null, .null, .int 0])), (q_8, .inl (cI, 250, .inl (fun _ => 0))), (q_17, .inl (cI, 250, .inl (fun _ => 0))), (q_25, .inl (cI, 60, .inl (fun _ => 0))), (q_33, .inl (cI, 60, .inl (fun _ => 0))), (q_41, .inl (cI, 30, .inl (fun _ => 0))), (q_49, .inl (cI, 30, .inl (fun _ => 0)))] H := hP
  have hD : va_D A [(h_M, .inr (5, [.int 0, .ref q_8, .ref q_17, .int 0, .ref q_25, .ref q_33, .int 0, .ref q_41, .ref q_49, .null, .null, .null, .int 0])), (q_8, .inl (cI, 250, .inl (fun _ => 0))), (q_17, .inl (cI, 250, .inl (fun _ => 0))), (q_25, .inl (cI, 60, .inl (fun _ => 0))), (q_33, .inl (cI, 60, .inl (fun _ => 0))), (q_41, .inl (cI, 30, .inl (fun _ => 0))), (q_49, .inl (cI, 30, .inl (fun _ => 0)))] := hD
  refine lv_aload_n hx hb dX5_init_54 rfl (lv_at hl 0 rfl) ?_
  refine lv_sipush (v := (250 : Int32)) hx hb dX5_init_55 (by decide) ?_
  refine va_newa (atype := .int) (ty := .int) (N' := 250) (a0 := (250, .inl (fun _ => 0))) hx hb (hts (.arrayClass .int) (by decide +kernel)) rfl hK hP hD hS hA (fun _ => rfl) (by decide) (by decide) (by decide) (Nat.le_of_ble_eq_true rfl) (Nat.le_of_ble_eq_true rfl) dX5_init_58 (fun q_58 cA H hK hP hD hS => ?_)
  obtain rfl : cI = cA := ty_same hK
  have hK := hK.sub (tys' := [(cI, .int), (cZ, .boolean)]) [0, 1] rfl
  have hP : va_P (dC, dI) vwCl [(h_M, .inr (5, [.int 0, .ref q_8, .ref q_17, .int 0, .ref q_25, .ref q_33, .int 0, .ref q_41, .ref q_49, .null, .null, .null, .int 0])), (q_8, .inl (cI, 250, .inl (fun _ => 0))), (q_17, .inl (cI, 250, .inl (fun _ => 0))), (q_25, .inl (cI, 60, .inl (fun _ => 0))), (q_33, .inl (cI, 60, .inl (fun _ => 0))), (q_41, .inl (cI, 30, .inl (fun _ => 0))), (q_49, .inl (cI, 30, .inl (fun _ => 0))), (q_58, .inl (cI, 250, .inl (fun _ => 0)))] H := hP
  have hD : va_D A [(h_M, .inr (5, [.int 0, .ref q_8, .ref q_17, .int 0, .ref q_25, .ref q_33, .int 0, .ref q_41, .ref q_49, .null, .null, .null, .int 0])), (q_8, .inl (cI, 250, .inl (fun _ => 0))), (q_17, .inl (cI, 250, .inl (fun _ => 0))), (q_25, .inl (cI, 60, .inl (fun _ => 0))), (q_33, .inl (cI, 60, .inl (fun _ => 0))), (q_41, .inl (cI, 30, .inl (fun _ => 0))), (q_49, .inl (cI, 30, .inl (fun _ => 0))), (q_58, .inl (cI, 250, .inl (fun _ => 0)))] := hD
  refine W.widen (k := 7) (n := 930) (Nat.le_refl _) (Nat.le_refl _) ?_
  refine va_putF (D := (dC, dI)) (ci := 5) (v := .ref q_58) (ty := .array .int) (C := RX5) (T := TX5) (N := 13) hx hb hts in_X5 tyX5 tyX5_ok nmX5 hown hK hP hD hS 0 rfl rfl 9 (by decide) (hts (.fieldLink RX5 28 "SameTermsModel" "label" "[I") (by decide +kernel)) (fun _ h9 => h9) rfl hin rfl (by decide +kernel) rfl rfl (Nat.le_of_ble_eq_true rfl) dX5_init_60 (fun H locs hP hD hS => ?_)
  have hP : va_P (dC, dI) vwCl [(h_M, .inr (5, [.int 0, .ref q_8, .ref q_17, .int 0, .ref q_25, .ref q_33, .int 0, .ref q_41, .ref q_49, .ref q_58, .null, .null, .int 0])), (q_8, .inl (cI, 250, .inl (fun _ => 0))), (q_17, .inl (cI, 250, .inl (fun _ => 0))), (q_25, .inl (cI, 60, .inl (fun _ => 0))), (q_33, .inl (cI, 60, .inl (fun _ => 0))), (q_41, .inl (cI, 30, .inl (fun _ => 0))), (q_49, .inl (cI, 30, .inl (fun _ => 0))), (q_58, .inl (cI, 250, .inl (fun _ => 0)))] H := hP
  have hD : va_D A [(h_M, .inr (5, [.int 0, .ref q_8, .ref q_17, .int 0, .ref q_25, .ref q_33, .int 0, .ref q_41, .ref q_49, .ref q_58, .null, .null, .int 0])), (q_8, .inl (cI, 250, .inl (fun _ => 0))), (q_17, .inl (cI, 250, .inl (fun _ => 0))), (q_25, .inl (cI, 60, .inl (fun _ => 0))), (q_33, .inl (cI, 60, .inl (fun _ => 0))), (q_41, .inl (cI, 30, .inl (fun _ => 0))), (q_49, .inl (cI, 30, .inl (fun _ => 0))), (q_58, .inl (cI, 250, .inl (fun _ => 0)))] := hD
  refine lv_aload_n hx hb dX5_init_63 rfl (lv_at hl 0 rfl) ?_
  refine lv_sipush (v := (250 : Int32)) hx hb dX5_init_64 (by decide) ?_
  refine va_newa (atype := .int) (ty := .int) (N' := 250) (a0 := (250, .inl (fun _ => 0))) hx hb (hts (.arrayClass .int) (by decide +kernel)) rfl hK hP hD hS hA (fun _ => rfl) (by decide) (by decide) (by decide) (Nat.le_of_ble_eq_true rfl) (Nat.le_of_ble_eq_true rfl) dX5_init_67 (fun q_67 cA H hK hP hD hS => ?_)
  obtain rfl : cI = cA := ty_same hK
  have hK := hK.sub (tys' := [(cI, .int), (cZ, .boolean)]) [0, 1] rfl
  have hP : va_P (dC, dI) vwCl [(h_M, .inr (5, [.int 0, .ref q_8, .ref q_17, .int 0, .ref q_25, .ref q_33, .int 0, .ref q_41, .ref q_49, .ref q_58, .null, .null, .int 0])), (q_8, .inl (cI, 250, .inl (fun _ => 0))), (q_17, .inl (cI, 250, .inl (fun _ => 0))), (q_25, .inl (cI, 60, .inl (fun _ => 0))), (q_33, .inl (cI, 60, .inl (fun _ => 0))), (q_41, .inl (cI, 30, .inl (fun _ => 0))), (q_49, .inl (cI, 30, .inl (fun _ => 0))), (q_58, .inl (cI, 250, .inl (fun _ => 0))), (q_67, .inl (cI, 250, .inl (fun _ => 0)))] H := hP
  have hD : va_D A [(h_M, .inr (5, [.int 0, .ref q_8, .ref q_17, .int 0, .ref q_25, .ref q_33, .int 0, .ref q_41, .ref q_49, .ref q_58, .null, .null, .int 0])), (q_8, .inl (cI, 250, .inl (fun _ => 0))), (q_17, .inl (cI, 250, .inl (fun _ => 0))), (q_25, .inl (cI, 60, .inl (fun _ => 0))), (q_33, .inl (cI, 60, .inl (fun _ => 0))), (q_41, .inl (cI, 30, .inl (fun _ => 0))), (q_49, .inl (cI, 30, .inl (fun _ => 0))), (q_58, .inl (cI, 250, .inl (fun _ => 0))), (q_67, .inl (cI, 250, .inl (fun _ => 0)))] := hD
  refine W.widen (k := 8) (n := 1180) (Nat.le_refl _) (Nat.le_refl _) ?_
  refine va_putF (D := (dC, dI)) (ci := 5) (v := .ref q_67) (ty := .array .int) (C := RX5) (T := TX5) (N := 13) hx hb hts in_X5 tyX5 tyX5_ok nmX5 hown hK hP hD hS 0 rfl rfl 10 (by decide) (hts (.fieldLink RX5 31 "SameTermsModel" "before" "[I") (by decide +kernel)) (fun _ h9 => h9) rfl hin rfl (by decide +kernel) rfl rfl (Nat.le_of_ble_eq_true rfl) dX5_init_69 (fun H locs hP hD hS => ?_)
  have hP : va_P (dC, dI) vwCl [(h_M, .inr (5, [.int 0, .ref q_8, .ref q_17, .int 0, .ref q_25, .ref q_33, .int 0, .ref q_41, .ref q_49, .ref q_58, .ref q_67, .null, .int 0])), (q_8, .inl (cI, 250, .inl (fun _ => 0))), (q_17, .inl (cI, 250, .inl (fun _ => 0))), (q_25, .inl (cI, 60, .inl (fun _ => 0))), (q_33, .inl (cI, 60, .inl (fun _ => 0))), (q_41, .inl (cI, 30, .inl (fun _ => 0))), (q_49, .inl (cI, 30, .inl (fun _ => 0))), (q_58, .inl (cI, 250, .inl (fun _ => 0))), (q_67, .inl (cI, 250, .inl (fun _ => 0)))] H := hP
  have hD : va_D A [(h_M, .inr (5, [.int 0, .ref q_8, .ref q_17, .int 0, .ref q_25, .ref q_33, .int 0, .ref q_41, .ref q_49, .ref q_58, .ref q_67, .null, .int 0])), (q_8, .inl (cI, 250, .inl (fun _ => 0))), (q_17, .inl (cI, 250, .inl (fun _ => 0))), (q_25, .inl (cI, 60, .inl (fun _ => 0))), (q_33, .inl (cI, 60, .inl (fun _ => 0))), (q_41, .inl (cI, 30, .inl (fun _ => 0))), (q_49, .inl (cI, 30, .inl (fun _ => 0))), (q_58, .inl (cI, 250, .inl (fun _ => 0))), (q_67, .inl (cI, 250, .inl (fun _ => 0)))] := hD
  refine lv_aload_n hx hb dX5_init_72 rfl (lv_at hl 0 rfl) ?_
  refine lv_sipush (v := (250 : Int32)) hx hb dX5_init_73 (by decide) ?_
  refine va_newa (atype := .int) (ty := .int) (N' := 250) (a0 := (250, .inl (fun _ => 0))) hx hb (hts (.arrayClass .int) (by decide +kernel)) rfl hK hP hD hS hA (fun _ => rfl) (by decide) (by decide) (by decide) (Nat.le_of_ble_eq_true rfl) (Nat.le_of_ble_eq_true rfl) dX5_init_76 (fun q_76 cA H hK hP hD hS => ?_)
  obtain rfl : cI = cA := ty_same hK
  have hK := hK.sub (tys' := [(cI, .int), (cZ, .boolean)]) [0, 1] rfl
  have hP : va_P (dC, dI) vwCl [(h_M, .inr (5, [.int 0, .ref q_8, .ref q_17, .int 0, .ref q_25, .ref q_33, .int 0, .ref q_41, .ref q_49, .ref q_58, .ref q_67, .null, .int 0])), (q_8, .inl (cI, 250, .inl (fun _ => 0))), (q_17, .inl (cI, 250, .inl (fun _ => 0))), (q_25, .inl (cI, 60, .inl (fun _ => 0))), (q_33, .inl (cI, 60, .inl (fun _ => 0))), (q_41, .inl (cI, 30, .inl (fun _ => 0))), (q_49, .inl (cI, 30, .inl (fun _ => 0))), (q_58, .inl (cI, 250, .inl (fun _ => 0))), (q_67, .inl (cI, 250, .inl (fun _ => 0))), (q_76, .inl (cI, 250, .inl (fun _ => 0)))] H := hP
  have hD : va_D A [(h_M, .inr (5, [.int 0, .ref q_8, .ref q_17, .int 0, .ref q_25, .ref q_33, .int 0, .ref q_41, .ref q_49, .ref q_58, .ref q_67, .null, .int 0])), (q_8, .inl (cI, 250, .inl (fun _ => 0))), (q_17, .inl (cI, 250, .inl (fun _ => 0))), (q_25, .inl (cI, 60, .inl (fun _ => 0))), (q_33, .inl (cI, 60, .inl (fun _ => 0))), (q_41, .inl (cI, 30, .inl (fun _ => 0))), (q_49, .inl (cI, 30, .inl (fun _ => 0))), (q_58, .inl (cI, 250, .inl (fun _ => 0))), (q_67, .inl (cI, 250, .inl (fun _ => 0))), (q_76, .inl (cI, 250, .inl (fun _ => 0)))] := hD
  refine W.widen (k := 9) (n := 1430) (Nat.le_refl _) (Nat.le_refl _) ?_
  refine va_putF (D := (dC, dI)) (ci := 5) (v := .ref q_76) (ty := .array .int) (C := RX5) (T := TX5) (N := 13) hx hb hts in_X5 tyX5 tyX5_ok nmX5 hown hK hP hD hS 0 rfl rfl 11 (by decide) (hts (.fieldLink RX5 34 "SameTermsModel" "applications" "[I") (by decide +kernel)) (fun _ h9 => h9) rfl hin rfl (by decide +kernel) rfl rfl (Nat.le_of_ble_eq_true rfl) dX5_init_78 (fun H locs hP hD hS => ?_)
  have hP : va_P (dC, dI) vwCl [(h_M, .inr (5, [.int 0, .ref q_8, .ref q_17, .int 0, .ref q_25, .ref q_33, .int 0, .ref q_41, .ref q_49, .ref q_58, .ref q_67, .ref q_76, .int 0])), (q_8, .inl (cI, 250, .inl (fun _ => 0))), (q_17, .inl (cI, 250, .inl (fun _ => 0))), (q_25, .inl (cI, 60, .inl (fun _ => 0))), (q_33, .inl (cI, 60, .inl (fun _ => 0))), (q_41, .inl (cI, 30, .inl (fun _ => 0))), (q_49, .inl (cI, 30, .inl (fun _ => 0))), (q_58, .inl (cI, 250, .inl (fun _ => 0))), (q_67, .inl (cI, 250, .inl (fun _ => 0))), (q_76, .inl (cI, 250, .inl (fun _ => 0)))] H := hP
  have hD : va_D A [(h_M, .inr (5, [.int 0, .ref q_8, .ref q_17, .int 0, .ref q_25, .ref q_33, .int 0, .ref q_41, .ref q_49, .ref q_58, .ref q_67, .ref q_76, .int 0])), (q_8, .inl (cI, 250, .inl (fun _ => 0))), (q_17, .inl (cI, 250, .inl (fun _ => 0))), (q_25, .inl (cI, 60, .inl (fun _ => 0))), (q_33, .inl (cI, 60, .inl (fun _ => 0))), (q_41, .inl (cI, 30, .inl (fun _ => 0))), (q_49, .inl (cI, 30, .inl (fun _ => 0))), (q_58, .inl (cI, 250, .inl (fun _ => 0))), (q_67, .inl (cI, 250, .inl (fun _ => 0))), (q_76, .inl (cI, 250, .inl (fun _ => 0)))] := hD
  refine lv_aload_n hx hb dX5_init_81 rfl (lv_at hl 0 rfl) ?_
  refine lv_iconst (v := (0 : Int32)) hx hb dX5_init_82 (by decide) ?_
  refine va_put (D := (dC, dI)) (ci := 5) (v := .int (0 : Int32)) (ty := .int) (C := RX5) (T := TX5) (N := 13) hx hb hts in_X5 tyX5 tyX5_ok nmX5 hown hK hP hD hS 0 rfl rfl 0 (by decide) (hts (.fieldLink RX5 37 "SameTermsModel" "terms" "I") (by decide +kernel)) (fun _ h9 => h9) rfl (by decide +kernel) rfl rfl (Nat.le_of_ble_eq_true rfl) dX5_init_83 (fun H locs hP hD hS => ?_)
  have hP : va_P (dC, dI) vwCl [(h_M, .inr (5, [.int (0 : Int32), .ref q_8, .ref q_17, .int 0, .ref q_25, .ref q_33, .int 0, .ref q_41, .ref q_49, .ref q_58, .ref q_67, .ref q_76, .int 0])), (q_8, .inl (cI, 250, .inl (fun _ => 0))), (q_17, .inl (cI, 250, .inl (fun _ => 0))), (q_25, .inl (cI, 60, .inl (fun _ => 0))), (q_33, .inl (cI, 60, .inl (fun _ => 0))), (q_41, .inl (cI, 30, .inl (fun _ => 0))), (q_49, .inl (cI, 30, .inl (fun _ => 0))), (q_58, .inl (cI, 250, .inl (fun _ => 0))), (q_67, .inl (cI, 250, .inl (fun _ => 0))), (q_76, .inl (cI, 250, .inl (fun _ => 0)))] H := hP
  have hD : va_D A [(h_M, .inr (5, [.int (0 : Int32), .ref q_8, .ref q_17, .int 0, .ref q_25, .ref q_33, .int 0, .ref q_41, .ref q_49, .ref q_58, .ref q_67, .ref q_76, .int 0])), (q_8, .inl (cI, 250, .inl (fun _ => 0))), (q_17, .inl (cI, 250, .inl (fun _ => 0))), (q_25, .inl (cI, 60, .inl (fun _ => 0))), (q_33, .inl (cI, 60, .inl (fun _ => 0))), (q_41, .inl (cI, 30, .inl (fun _ => 0))), (q_49, .inl (cI, 30, .inl (fun _ => 0))), (q_58, .inl (cI, 250, .inl (fun _ => 0))), (q_67, .inl (cI, 250, .inl (fun _ => 0))), (q_76, .inl (cI, 250, .inl (fun _ => 0)))] := hD
  exact W.vret hx hb hr (fun t ht hW => ⟨⟨(), rfl, trivial, q_8, q_17, q_25, q_33, q_41, q_49, q_58, q_67, q_76, by rw [ht]; exact hP, va_K.moved hW.alike hK, hD⟩, hS.F ht⟩) hS.2.2 dX5_init_86

def wp_X2_has (n_P : Nat) (P : PaS) (l1 : Int32) (post : Int32 → Prop) : Prop := ((l1 < (0 : Int32) → (post (0 : Int32))) ∧ (¬ l1 < (0 : Int32) → (((pa_total P) ≤ l1 → (post (0 : Int32))) ∧ (¬ (pa_total P) ≤ l1 → (post (1 : Int32))))))
set_option maxHeartbeats 4000000 in
set_option maxRecDepth 100000 in
theorem c_X2_has (l : Launch) (dC : Nat → ClassId) (dI : Nat → Nat → Nat) (cI cZ : ClassId) (sz : Nat) (h_P a_P_left a_P_right : Nat) (n_P : Nat) (P : PaS) (l1 : Int32) (post : Int32 → Prop) : Met l yX2_has wsX2_has ({ frames := 0, cells := 0, slots := 0, locals := 0 }) (va_Pc [.ref h_P, .int l1] (fun U => U.heap.size = sz ∧ va_P (dC, dI) vwCl [(h_P, .inr (2, [.ref a_P_left, .ref a_P_right, .int (pa_total P)]))] U.heap ∧ va_K (dC, dI) vwCl [(cI, .int), (cZ, .boolean)] U ∧ va_D (fun _ => True) [(h_P, .inr (2, [.ref a_P_left, .ref a_P_right, .int (pa_total P)]))] ∧ wp_X2_has n_P P l1 post)) (va_Qi (fun (r : Int32) (u : Unit) => post r ) (fun (u : Unit) (t : State) => va_P (dC, dI) vwCl [(h_P, .inr (2, [.ref a_P_left, .ref a_P_right, .int (pa_total P)]))] t.heap ∧ va_K (dC, dI) vwCl [(cI, .int), (cZ, .boolean)] t ∧ va_D (va_A [(h_P, .inr (2, [.ref a_P_left, .ref a_P_right, .int (pa_total P)]))] sz) [(h_P, .inr (2, [.ref a_P_left, .ref a_P_right, .int (pa_total P)]))]) (va_A [(h_P, .inr (2, [.ref a_P_left, .ref a_P_right, .int (pa_total P)]))] sz)) 0 0 (va_A [(h_P, .inr (2, [.ref a_P_left, .ref a_P_right, .int (pa_total P)]))] sz) := by
  refine Met.ofW (cc := cX2_has) (maxL := 2) (ret := (some .boolean)) (by decide) rfl ?_
  intro p e s m args below meth c s₁ B hml hv
  obtain ⟨rfl, hsz, hP, hK, hD0, hw⟩ := hv
  have hx := B.exec
  have hb := B.bytes
  have hr := B.returns
  have hts := atoms_spec (ws := wsX2_has) B.pre
  have hown : s.vm.findClass RX2 = some m.cls := findClass_of_methodNamed B.named
  have hlocks := B.notSynchronized
  subst hsz
  have hD := hD0.self (sz := s.heap.size)
  generalize hAe : va_A [(h_P, .inr (2, [.ref a_P_left, .ref a_P_right, .int (pa_total P)]))] s.heap.size = A at hD ⊢
  have hA : ∀ q : Nat, s.heap.size ≤ q → A q := fun q h => by rw [← hAe]; exact Or.inr h
  have hS : va_S A s.heap s.heap [] := va_S.rf
  have hP : va_P (dC, dI) vwCl [(h_P, .inr (2, [.ref a_P_left, .ref a_P_right, .int (pa_total P)]))] s.heap := hP
  have hl := lv_entry ([.ref h_P, .int l1]) (n := 2) (Nat.le_of_ble_eq_true rfl)
  rw [lg_entry_eq]
  generalize (lg_sl ([.ref h_P, .int l1]) ++ List.replicate (2 - (lg_sl ([.ref h_P, .int l1])).length) Slot.unset).toArray = ls at hl ⊢
  have hl : lv_has ls 2 [(0, .ref h_P), (1, .int l1)] := hl
  have in_X2 : ∀ w ∈ wsX20, w ∈ wsX2_has := by decide +kernel
  have lk_24 := hts (.fieldLink RX2 24 "SameTerms$Pairs" "total" "I") (by decide +kernel)
  unfold wp_X2_has at hw
  refine w_goal (fun G gI gE => gI _ _ _ ?_)
  obtain ⟨H, hH⟩ : ∃ H : Heap, H = s.heap := ⟨_, rfl⟩
  obtain ⟨locs, hlocs⟩ : ∃ z : List Loc, z = [] := ⟨_, rfl⟩
  rw [← hH] at hP
  have hS : va_S A s.heap H locs := by rw [hH, hlocs]; exact hS
  refine w_start hH hlocs ?_
  refine lv_iload_n hx hb dX2_has_0 rfl (lv_at hl 1 rfl) ?_
  refine lv_if_lt (tgt := 16) hx hb dX2_has_1 (by decide) (fun c_1 => ?_) (fun c_1 => ?_)
  · have hw := hw.1 c_1
    refine lv_iconst (v := (0 : Int32)) hx hb dX2_has_16 (by decide) ?_
    exact W.zret (v := (0 : Int32)) hx hb hr rfl (fun t ht hW => ⟨⟨(0 : Int32), (), rfl, hw, by rw [ht]; exact hP, va_K.moved hW.alike hK, hD⟩, hS.F ht⟩) hS.2.2 dX2_has_17
  · have hw := hw.2 c_1
    refine lv_iload_n hx hb dX2_has_4 rfl (lv_at hl 1 rfl) ?_
    refine lv_aload_n hx hb dX2_has_5 rfl (lv_at hl 0 rfl) ?_
    refine va_get (D := (dC, dI)) (ci := 2) (v := .int (pa_total P)) (C := RX2) (T := TX2) (N := 3) hx hb hts in_X2 hown hK hP 0 rfl rfl 2 (by decide) lk_24 (fun _ h9 => h9) rfl dX2_has_6 ?_
    refine lv_icmp_ge (tgt := 16) hx hb dX2_has_9 (by decide) (fun c_2 => ?_) (fun c_2 => ?_)
    · have hw := hw.1 c_2
      refine lv_iconst (v := (0 : Int32)) hx hb dX2_has_16 (by decide) ?_
      exact W.zret (v := (0 : Int32)) hx hb hr rfl (fun t ht hW => ⟨⟨(0 : Int32), (), rfl, hw, by rw [ht]; exact hP, va_K.moved hW.alike hK, hD⟩, hS.F ht⟩) hS.2.2 dX2_has_17
    · have hw := hw.2 c_2
      refine lv_iconst (v := (1 : Int32)) hx hb dX2_has_12 (by decide) ?_
      refine lv_goto (tgt := 17) hx hb dX2_has_13 (by decide) ?_
      exact W.zret (v := (1 : Int32)) hx hb hr rfl (fun t ht hW => ⟨⟨(1 : Int32), (), rfl, hw, by rw [ht]; exact hP, va_K.moved hW.alike hK, hD⟩, hS.F ht⟩) hS.2.2 dX2_has_17
def wp_X2_add (n_P : Nat) (P : PaS) (l1 : Int32) (l2 : Int32) (post : Int32 → PaS → Prop) : Prop := (((pa_total P) < (Int32.ofNat n_P) → (vp_in (pa_total P) n_P ∧ (post (((pa_total P) + (1 : Int32)) - (1 : Int32)) (pa_s_total (pa_s_right (pa_s_left P (upd (pa_left P) (pa_total P).toNatClampNeg l1)) (upd (pa_right P) (pa_total P).toNatClampNeg l2)) ((pa_total P) + (1 : Int32)))))) ∧ (¬ (pa_total P) < (Int32.ofNat n_P) → (post (-3 : Int32) P)))
set_option maxHeartbeats 4000000 in
set_option maxRecDepth 100000 in
theorem c_X2_add (l : Launch) (dC : Nat → ClassId) (dI : Nat → Nat → Nat) (cI cZ : ClassId) (sz : Nat) (h_P a_P_left a_P_right : Nat) (n_P : Nat) (P : PaS) (l1 : Int32) (l2 : Int32) (post : Int32 → PaS → Prop) : Met l yX2_add wsX2_add ({ frames := 0, cells := 0, slots := 0, locals := 0 }) (va_Pc [.ref h_P, .int l1, .int l2] (fun U => U.heap.size = sz ∧ va_P (dC, dI) vwCl [(h_P, .inr (2, [.ref a_P_left, .ref a_P_right, .int (pa_total P)])), (a_P_left, .inl (cI, n_P, .inl (pa_left P))), (a_P_right, .inl (cI, n_P, .inl (pa_right P)))] U.heap ∧ va_K (dC, dI) vwCl [(cI, .int), (cZ, .boolean)] U ∧ va_D (fun _ => True) [(h_P, .inr (2, [.ref a_P_left, .ref a_P_right, .int (pa_total P)])), (a_P_left, .inl (cI, n_P, .inl (pa_left P))), (a_P_right, .inl (cI, n_P, .inl (pa_right P)))] ∧ wp_X2_add n_P P l1 l2 post)) (va_Qi (fun (r : Int32) (u : PaS) => post r u) (fun (u : PaS) (t : State) => va_P (dC, dI) vwCl [(h_P, .inr (2, [.ref a_P_left, .ref a_P_right, .int (pa_total u)])), (a_P_left, .inl (cI, n_P, .inl (pa_left u))), (a_P_right, .inl (cI, n_P, .inl (pa_right u)))] t.heap ∧ va_K (dC, dI) vwCl [(cI, .int), (cZ, .boolean)] t ∧ va_D (va_A [(h_P, .inr (2, [.ref a_P_left, .ref a_P_right, .int (pa_total P)])), (a_P_left, .inl (cI, n_P, .inl (pa_left P))), (a_P_right, .inl (cI, n_P, .inl (pa_right P)))] sz) [(h_P, .inr (2, [.ref a_P_left, .ref a_P_right, .int (pa_total u)])), (a_P_left, .inl (cI, n_P, .inl (pa_left u))), (a_P_right, .inl (cI, n_P, .inl (pa_right u)))]) (va_A [(h_P, .inr (2, [.ref a_P_left, .ref a_P_right, .int (pa_total P)])), (a_P_left, .inl (cI, n_P, .inl (pa_left P))), (a_P_right, .inl (cI, n_P, .inl (pa_right P)))] sz)) 0 0 (va_A [(h_P, .inr (2, [.ref a_P_left, .ref a_P_right, .int (pa_total P)])), (a_P_left, .inl (cI, n_P, .inl (pa_left P))), (a_P_right, .inl (cI, n_P, .inl (pa_right P)))] sz) := by
  refine Met.ofW (cc := cX2_add) (maxL := 3) (ret := (some .int)) (by decide) rfl ?_
  intro p e s m args below meth c s₁ B hml hv
  obtain ⟨rfl, hsz, hP, hK, hD0, hw⟩ := hv
  have hx := B.exec
  have hb := B.bytes
  have hr := B.returns
  have hts := atoms_spec (ws := wsX2_add) B.pre
  have hown : s.vm.findClass RX2 = some m.cls := findClass_of_methodNamed B.named
  have hlocks := B.notSynchronized
  subst hsz
  have hD := hD0.self (sz := s.heap.size)
  generalize hAe : va_A [(h_P, .inr (2, [.ref a_P_left, .ref a_P_right, .int (pa_total P)])), (a_P_left, .inl (cI, n_P, .inl (pa_left P))), (a_P_right, .inl (cI, n_P, .inl (pa_right P)))] s.heap.size = A at hD ⊢
  have hA : ∀ q : Nat, s.heap.size ≤ q → A q := fun q h => by rw [← hAe]; exact Or.inr h
  have hS : va_S A s.heap s.heap [] := va_S.rf
  have hP : va_P (dC, dI) vwCl [(h_P, .inr (2, [.ref a_P_left, .ref a_P_right, .int (pa_total P)])), (a_P_left, .inl (cI, n_P, .inl (pa_left P))), (a_P_right, .inl (cI, n_P, .inl (pa_right P)))] s.heap := hP
  have hl := lv_entry ([.ref h_P, .int l1, .int l2]) (n := 3) (Nat.le_of_ble_eq_true rfl)
  rw [lg_entry_eq]
  generalize (lg_sl ([.ref h_P, .int l1, .int l2]) ++ List.replicate (3 - (lg_sl ([.ref h_P, .int l1, .int l2])).length) Slot.unset).toArray = ls at hl ⊢
  have hl : lv_has ls 3 [(0, .ref h_P), (1, .int l1), (2, .int l2)] := hl
  have in_X2 : ∀ w ∈ wsX20, w ∈ wsX2_add := by decide +kernel
  have lk_24 := hts (.fieldLink RX2 24 "SameTerms$Pairs" "total" "I") (by decide +kernel)
  have lk_15 := hts (.fieldLink RX2 15 "SameTerms$Pairs" "left" "[I") (by decide +kernel)
  have lk_21 := hts (.fieldLink RX2 21 "SameTerms$Pairs" "right" "[I") (by decide +kernel)
  unfold wp_X2_add at hw
  refine w_goal (fun G gI gE => gI _ _ _ ?_)
  obtain ⟨H, hH⟩ : ∃ H : Heap, H = s.heap := ⟨_, rfl⟩
  obtain ⟨locs, hlocs⟩ : ∃ z : List Loc, z = [] := ⟨_, rfl⟩
  rw [← hH] at hP
  have hS : va_S A s.heap H locs := by rw [hH, hlocs]; exact hS
  refine w_start hH hlocs ?_
  refine lv_aload_n hx hb dX2_add_0 rfl (lv_at hl 0 rfl) ?_
  refine va_get (D := (dC, dI)) (ci := 2) (v := .int (pa_total P)) (C := RX2) (T := TX2) (N := 3) hx hb hts in_X2 hown hK hP 0 rfl rfl 2 (by decide) lk_24 (fun _ h9 => h9) rfl dX2_add_1 ?_
  refine lv_aload_n hx hb dX2_add_4 rfl (lv_at hl 0 rfl) ?_
  refine va_get (D := (dC, dI)) (ci := 2) (v := .ref a_P_left) (C := RX2) (T := TX2) (N := 3) hx hb hts in_X2 hown hK hP 0 rfl rfl 0 (by decide) lk_15 (fun _ h9 => h9) rfl dX2_add_5 ?_
  refine va_alen hx hb hK hP 1 0 rfl rfl rfl dX2_add_8 ?_
  refine lv_icmp_lt (tgt := 15) hx hb dX2_add_9 (by decide) (fun c_1 => ?_) (fun c_1 => ?_)
  · have hw := hw.1 c_1
    refine lv_aload_n hx hb dX2_add_15 rfl (lv_at hl 0 rfl) ?_
    refine va_get (D := (dC, dI)) (ci := 2) (v := .ref a_P_left) (C := RX2) (T := TX2) (N := 3) hx hb hts in_X2 hown hK hP 0 rfl rfl 0 (by decide) lk_15 (fun _ h9 => h9) rfl dX2_add_16 ?_
    refine lv_aload_n hx hb dX2_add_19 rfl (lv_at hl 0 rfl) ?_
    refine va_get (D := (dC, dI)) (ci := 2) (v := .int (pa_total P)) (C := RX2) (T := TX2) (N := 3) hx hb hts in_X2 hown hK hP 0 rfl rfl 2 (by decide) lk_24 (fun _ h9 => h9) rfl dX2_add_20 ?_
    refine lv_iload_n hx hb dX2_add_23 rfl (lv_at hl 1 rfl) ?_
    obtain ⟨hi_2, hw⟩ := hw
    refine va_iast hx hb hK hP hD hS 1 0 rfl rfl hi_2 dX2_add_24 (fun H locs hP hD hS => ?_)
    have hP : va_P (dC, dI) vwCl [(h_P, .inr (2, [.ref a_P_left, .ref a_P_right, .int (pa_total P)])), (a_P_left, .inl (cI, n_P, .inl (upd (pa_left P) (pa_total P).toNatClampNeg l1))), (a_P_right, .inl (cI, n_P, .inl (pa_right P)))] H := hP
    have hD : va_D A [(h_P, .inr (2, [.ref a_P_left, .ref a_P_right, .int (pa_total P)])), (a_P_left, .inl (cI, n_P, .inl (upd (pa_left P) (pa_total P).toNatClampNeg l1))), (a_P_right, .inl (cI, n_P, .inl (pa_right P)))] := hD
    refine lv_aload_n hx hb dX2_add_25 rfl (lv_at hl 0 rfl) ?_
    refine va_get (D := (dC, dI)) (ci := 2) (v := .ref a_P_right) (C := RX2) (T := TX2) (N := 3) hx hb hts in_X2 hown hK hP 0 rfl rfl 1 (by decide) lk_21 (fun _ h9 => h9) rfl dX2_add_26 ?_
    refine lv_aload_n hx hb dX2_add_29 rfl (lv_at hl 0 rfl) ?_
    refine va_get (D := (dC, dI)) (ci := 2) (v := .int (pa_total P)) (C := RX2) (T := TX2) (N := 3) hx hb hts in_X2 hown hK hP 0 rfl rfl 2 (by decide) lk_24 (fun _ h9 => h9) rfl dX2_add_30 ?_
    refine lv_iload_n hx hb dX2_add_33 rfl (lv_at hl 2 rfl) ?_
    refine va_iast hx hb hK hP hD hS 2 0 rfl rfl hi_2 dX2_add_34 (fun H locs hP hD hS => ?_)
    have hP : va_P (dC, dI) vwCl [(h_P, .inr (2, [.ref a_P_left, .ref a_P_right, .int (pa_total P)])), (a_P_left, .inl (cI, n_P, .inl (upd (pa_left P) (pa_total P).toNatClampNeg l1))), (a_P_right, .inl (cI, n_P, .inl (upd (pa_right P) (pa_total P).toNatClampNeg l2)))] H := hP
    have hD : va_D A [(h_P, .inr (2, [.ref a_P_left, .ref a_P_right, .int (pa_total P)])), (a_P_left, .inl (cI, n_P, .inl (upd (pa_left P) (pa_total P).toNatClampNeg l1))), (a_P_right, .inl (cI, n_P, .inl (upd (pa_right P) (pa_total P).toNatClampNeg l2)))] := hD
    refine lv_aload_n hx hb dX2_add_35 rfl (lv_at hl 0 rfl) ?_
    refine lv_dup hx hb dX2_add_36 rfl ?_
    refine va_get (D := (dC, dI)) (ci := 2) (v := .int (pa_total P)) (C := RX2) (T := TX2) (N := 3) hx hb hts in_X2 hown hK hP 0 rfl rfl 2 (by decide) lk_24 (fun _ h9 => h9) rfl dX2_add_37 ?_
    refine lv_iconst (v := (1 : Int32)) hx hb dX2_add_40 (by decide) ?_
    refine lv_iadd hx hb dX2_add_41 ?_
    refine va_put (D := (dC, dI)) (ci := 2) (v := .int ((pa_total P) + (1 : Int32))) (ty := .int) (C := RX2) (T := TX2) (N := 3) hx hb hts in_X2 tyX2 tyX2_ok nmX2 hown hK hP hD hS 0 rfl rfl 2 (by decide) lk_24 (fun _ h9 => h9) rfl (by decide +kernel) rfl rfl (Nat.le_of_ble_eq_true rfl) dX2_add_42 (fun H locs hP hD hS => ?_)
    have hP : va_P (dC, dI) vwCl [(h_P, .inr (2, [.ref a_P_left, .ref a_P_right, .int ((pa_total P) + (1 : Int32))])), (a_P_left, .inl (cI, n_P, .inl (upd (pa_left P) (pa_total P).toNatClampNeg l1))), (a_P_right, .inl (cI, n_P, .inl (upd (pa_right P) (pa_total P).toNatClampNeg l2)))] H := hP
    have hD : va_D A [(h_P, .inr (2, [.ref a_P_left, .ref a_P_right, .int ((pa_total P) + (1 : Int32))])), (a_P_left, .inl (cI, n_P, .inl (upd (pa_left P) (pa_total P).toNatClampNeg l1))), (a_P_right, .inl (cI, n_P, .inl (upd (pa_right P) (pa_total P).toNatClampNeg l2)))] := hD
    refine lv_aload_n hx hb dX2_add_45 rfl (lv_at hl 0 rfl) ?_
    refine va_get (D := (dC, dI)) (ci := 2) (v := .int ((pa_total P) + (1 : Int32))) (C := RX2) (T := TX2) (N := 3) hx hb hts in_X2 hown hK hP 0 rfl rfl 2 (by decide) lk_24 (fun _ h9 => h9) rfl dX2_add_46 ?_
    refine lv_iconst (v := (1 : Int32)) hx hb dX2_add_49 (by decide) ?_
    refine lv_isub hx hb dX2_add_50 ?_
    exact W.iret (v := (((pa_total P) + (1 : Int32)) - (1 : Int32))) hx hb hr (fun t ht hW => ⟨⟨(((pa_total P) + (1 : Int32)) - (1 : Int32)), (pa_s_total (pa_s_right (pa_s_left P (upd (pa_left P) (pa_total P).toNatClampNeg l1)) (upd (pa_right P) (pa_total P).toNatClampNeg l2)) ((pa_total P) + (1 : Int32))), rfl, hw, by rw [ht]; exact hP, va_K.moved hW.alike hK, hD⟩, hS.F ht⟩) hS.2.2 dX2_add_51
  · have hw := hw.2 c_1
    refine lv_bipush (v := (-3 : Int32)) hx hb dX2_add_12 (by decide) ?_
    exact W.iret (v := (-3 : Int32)) hx hb hr (fun t ht hW => ⟨⟨(-3 : Int32), P, rfl, hw, by rw [ht]; exact hP, va_K.moved hW.alike hK, hD⟩, hS.F ht⟩) hS.2.2 dX2_add_14
def wp_X3_has (T : TeS) (l1 : Int32) (post : Int32 → Prop) : Prop := ((l1 < (0 : Int32) → (post (0 : Int32))) ∧ (¬ l1 < (0 : Int32) → (((te_total T) ≤ l1 → (post (0 : Int32))) ∧ (¬ (te_total T) ≤ l1 → (post (1 : Int32))))))
set_option maxHeartbeats 4000000 in
set_option maxRecDepth 100000 in
theorem c_X3_has (l : Launch) (dC : Nat → ClassId) (dI : Nat → Nat → Nat) (cI cZ : ClassId) (sz : Nat) (h_T a_T_first a_T_second a_T_lastUse a_T_useBefore : Nat) (T : TeS) (l1 : Int32) (post : Int32 → Prop) : Met l yX3_has wsX3_has ({ frames := 0, cells := 0, slots := 0, locals := 0 }) (va_Pc [.ref h_T, .int l1] (fun U => U.heap.size = sz ∧ va_P (dC, dI) vwCl [(h_T, .inr (3, [.ref a_T_first, .ref a_T_second, .int (te_total T), .ref a_T_lastUse, .ref a_T_useBefore]))] U.heap ∧ va_K (dC, dI) vwCl [(cI, .int), (cZ, .boolean)] U ∧ va_D (fun _ => True) [(h_T, .inr (3, [.ref a_T_first, .ref a_T_second, .int (te_total T), .ref a_T_lastUse, .ref a_T_useBefore]))] ∧ wp_X3_has T l1 post)) (va_Qi (fun (r : Int32) (u : Unit) => post r ) (fun (u : Unit) (t : State) => va_P (dC, dI) vwCl [(h_T, .inr (3, [.ref a_T_first, .ref a_T_second, .int (te_total T), .ref a_T_lastUse, .ref a_T_useBefore]))] t.heap ∧ va_K (dC, dI) vwCl [(cI, .int), (cZ, .boolean)] t ∧ va_D (va_A [(h_T, .inr (3, [.ref a_T_first, .ref a_T_second, .int (te_total T), .ref a_T_lastUse, .ref a_T_useBefore]))] sz) [(h_T, .inr (3, [.ref a_T_first, .ref a_T_second, .int (te_total T), .ref a_T_lastUse, .ref a_T_useBefore]))]) (va_A [(h_T, .inr (3, [.ref a_T_first, .ref a_T_second, .int (te_total T), .ref a_T_lastUse, .ref a_T_useBefore]))] sz)) 0 0 (va_A [(h_T, .inr (3, [.ref a_T_first, .ref a_T_second, .int (te_total T), .ref a_T_lastUse, .ref a_T_useBefore]))] sz) := by
  refine Met.ofW (cc := cX3_has) (maxL := 2) (ret := (some .boolean)) (by decide) rfl ?_
  intro p e s m args below meth c s₁ B hml hv
  obtain ⟨rfl, hsz, hP, hK, hD0, hw⟩ := hv
  have hx := B.exec
  have hb := B.bytes
  have hr := B.returns
  have hts := atoms_spec (ws := wsX3_has) B.pre
  have hown : s.vm.findClass RX3 = some m.cls := findClass_of_methodNamed B.named
  have hlocks := B.notSynchronized
  subst hsz
  have hD := hD0.self (sz := s.heap.size)
  generalize hAe : va_A [(h_T, .inr (3, [.ref a_T_first, .ref a_T_second, .int (te_total T), .ref a_T_lastUse, .ref a_T_useBefore]))] s.heap.size = A at hD ⊢
  have hA : ∀ q : Nat, s.heap.size ≤ q → A q := fun q h => by rw [← hAe]; exact Or.inr h
  have hS : va_S A s.heap s.heap [] := va_S.rf
  have hP : va_P (dC, dI) vwCl [(h_T, .inr (3, [.ref a_T_first, .ref a_T_second, .int (te_total T), .ref a_T_lastUse, .ref a_T_useBefore]))] s.heap := hP
  have hl := lv_entry ([.ref h_T, .int l1]) (n := 2) (Nat.le_of_ble_eq_true rfl)
  rw [lg_entry_eq]
  generalize (lg_sl ([.ref h_T, .int l1]) ++ List.replicate (2 - (lg_sl ([.ref h_T, .int l1])).length) Slot.unset).toArray = ls at hl ⊢
  have hl : lv_has ls 2 [(0, .ref h_T), (1, .int l1)] := hl
  have in_X3 : ∀ w ∈ wsX30, w ∈ wsX3_has := by decide +kernel
  have lk_24 := hts (.fieldLink RX3 24 "SameTerms$Terms" "total" "I") (by decide +kernel)
  unfold wp_X3_has at hw
  refine w_goal (fun G gI gE => gI _ _ _ ?_)
  obtain ⟨H, hH⟩ : ∃ H : Heap, H = s.heap := ⟨_, rfl⟩
  obtain ⟨locs, hlocs⟩ : ∃ z : List Loc, z = [] := ⟨_, rfl⟩
  rw [← hH] at hP
  have hS : va_S A s.heap H locs := by rw [hH, hlocs]; exact hS
  refine w_start hH hlocs ?_
  refine lv_iload_n hx hb dX3_has_0 rfl (lv_at hl 1 rfl) ?_
  refine lv_if_lt (tgt := 16) hx hb dX3_has_1 (by decide) (fun c_1 => ?_) (fun c_1 => ?_)
  · have hw := hw.1 c_1
    refine lv_iconst (v := (0 : Int32)) hx hb dX3_has_16 (by decide) ?_
    exact W.zret (v := (0 : Int32)) hx hb hr rfl (fun t ht hW => ⟨⟨(0 : Int32), (), rfl, hw, by rw [ht]; exact hP, va_K.moved hW.alike hK, hD⟩, hS.F ht⟩) hS.2.2 dX3_has_17
  · have hw := hw.2 c_1
    refine lv_iload_n hx hb dX3_has_4 rfl (lv_at hl 1 rfl) ?_
    refine lv_aload_n hx hb dX3_has_5 rfl (lv_at hl 0 rfl) ?_
    refine va_get (D := (dC, dI)) (ci := 3) (v := .int (te_total T)) (C := RX3) (T := TX3) (N := 5) hx hb hts in_X3 hown hK hP 0 rfl rfl 2 (by decide) lk_24 (fun _ h9 => h9) rfl dX3_has_6 ?_
    refine lv_icmp_ge (tgt := 16) hx hb dX3_has_9 (by decide) (fun c_2 => ?_) (fun c_2 => ?_)
    · have hw := hw.1 c_2
      refine lv_iconst (v := (0 : Int32)) hx hb dX3_has_16 (by decide) ?_
      exact W.zret (v := (0 : Int32)) hx hb hr rfl (fun t ht hW => ⟨⟨(0 : Int32), (), rfl, hw, by rw [ht]; exact hP, va_K.moved hW.alike hK, hD⟩, hS.F ht⟩) hS.2.2 dX3_has_17
    · have hw := hw.2 c_2
      refine lv_iconst (v := (1 : Int32)) hx hb dX3_has_12 (by decide) ?_
      refine lv_goto (tgt := 17) hx hb dX3_has_13 (by decide) ?_
      exact W.zret (v := (1 : Int32)) hx hb hr rfl (fun t ht hW => ⟨⟨(1 : Int32), (), rfl, hw, by rw [ht]; exact hP, va_K.moved hW.alike hK, hD⟩, hS.F ht⟩) hS.2.2 dX3_has_17
def K_X3_find_2_38 (post : Int32 → Prop) (l3 : Int32) : Prop := (post (-1 : Int32))
def B_X3_find_2 (T : TeS) (l1 : Int32) (l2 : Int32) (post : Int32 → Prop) (ke_2_38 : Int32 → Prop) (kb_2 : Int32 → Prop) (l3 : Int32) : Prop := (((te_total T) ≤ l3 → (ke_2_38 l3)) ∧ (¬ (te_total T) ≤ l3 → (vp_in l3 250 ∧ ((((te_first T) l3.toNatClampNeg) = l1 → ((((te_second T) l3.toNatClampNeg) = l2 → (post l3)) ∧ (¬ ((te_second T) l3.toNatClampNeg) = l2 → (kb_2 (l3 + 1))))) ∧ (¬ ((te_first T) l3.toNatClampNeg) = l1 → (kb_2 (l3 + 1)))))))
def wp_X3_find (T : TeS) (l1 : Int32) (l2 : Int32) (post : Int32 → Prop) : Prop := (∃ n : Nat, wl1 (B_X3_find_2 T l1 l2 post (K_X3_find_2_38 post)) n (0 : Int32))
set_option maxHeartbeats 4000000 in
set_option maxRecDepth 100000 in
theorem c_X3_find (l : Launch) (dC : Nat → ClassId) (dI : Nat → Nat → Nat) (cI cZ : ClassId) (sz : Nat) (h_T a_T_first a_T_second a_T_lastUse a_T_useBefore : Nat) (T : TeS) (l1 : Int32) (l2 : Int32) (post : Int32 → Prop) : Met l yX3_find wsX3_find ({ frames := 0, cells := 0, slots := 0, locals := 0 }) (va_Pc [.ref h_T, .int l1, .int l2] (fun U => U.heap.size = sz ∧ va_P (dC, dI) vwCl [(h_T, .inr (3, [.ref a_T_first, .ref a_T_second, .int (te_total T), .ref a_T_lastUse, .ref a_T_useBefore])), (a_T_first, .inl (cI, 250, .inl (te_first T))), (a_T_second, .inl (cI, 250, .inl (te_second T)))] U.heap ∧ va_K (dC, dI) vwCl [(cI, .int), (cZ, .boolean)] U ∧ va_D (fun _ => True) [(h_T, .inr (3, [.ref a_T_first, .ref a_T_second, .int (te_total T), .ref a_T_lastUse, .ref a_T_useBefore])), (a_T_first, .inl (cI, 250, .inl (te_first T))), (a_T_second, .inl (cI, 250, .inl (te_second T)))] ∧ wp_X3_find T l1 l2 post)) (va_Qi (fun (r : Int32) (u : Unit) => post r ) (fun (u : Unit) (t : State) => va_P (dC, dI) vwCl [(h_T, .inr (3, [.ref a_T_first, .ref a_T_second, .int (te_total T), .ref a_T_lastUse, .ref a_T_useBefore])), (a_T_first, .inl (cI, 250, .inl (te_first T))), (a_T_second, .inl (cI, 250, .inl (te_second T)))] t.heap ∧ va_K (dC, dI) vwCl [(cI, .int), (cZ, .boolean)] t ∧ va_D (va_A [(h_T, .inr (3, [.ref a_T_first, .ref a_T_second, .int (te_total T), .ref a_T_lastUse, .ref a_T_useBefore])), (a_T_first, .inl (cI, 250, .inl (te_first T))), (a_T_second, .inl (cI, 250, .inl (te_second T)))] sz) [(h_T, .inr (3, [.ref a_T_first, .ref a_T_second, .int (te_total T), .ref a_T_lastUse, .ref a_T_useBefore])), (a_T_first, .inl (cI, 250, .inl (te_first T))), (a_T_second, .inl (cI, 250, .inl (te_second T)))]) (va_A [(h_T, .inr (3, [.ref a_T_first, .ref a_T_second, .int (te_total T), .ref a_T_lastUse, .ref a_T_useBefore])), (a_T_first, .inl (cI, 250, .inl (te_first T))), (a_T_second, .inl (cI, 250, .inl (te_second T)))] sz)) 0 0 (va_A [(h_T, .inr (3, [.ref a_T_first, .ref a_T_second, .int (te_total T), .ref a_T_lastUse, .ref a_T_useBefore])), (a_T_first, .inl (cI, 250, .inl (te_first T))), (a_T_second, .inl (cI, 250, .inl (te_second T)))] sz) := by
  refine Met.ofW (cc := cX3_find) (maxL := 4) (ret := (some .int)) (by decide) rfl ?_
  intro p e s m args below meth c s₁ B hml hv
  obtain ⟨rfl, hsz, hP, hK, hD0, hw⟩ := hv
  have hx := B.exec
  have hb := B.bytes
  have hr := B.returns
  have hts := atoms_spec (ws := wsX3_find) B.pre
  have hown : s.vm.findClass RX3 = some m.cls := findClass_of_methodNamed B.named
  have hlocks := B.notSynchronized
  subst hsz
  have hD := hD0.self (sz := s.heap.size)
  generalize hAe : va_A [(h_T, .inr (3, [.ref a_T_first, .ref a_T_second, .int (te_total T), .ref a_T_lastUse, .ref a_T_useBefore])), (a_T_first, .inl (cI, 250, .inl (te_first T))), (a_T_second, .inl (cI, 250, .inl (te_second T)))] s.heap.size = A at hD ⊢
  have hA : ∀ q : Nat, s.heap.size ≤ q → A q := fun q h => by rw [← hAe]; exact Or.inr h
  have hS : va_S A s.heap s.heap [] := va_S.rf
  have hP : va_P (dC, dI) vwCl [(h_T, .inr (3, [.ref a_T_first, .ref a_T_second, .int (te_total T), .ref a_T_lastUse, .ref a_T_useBefore])), (a_T_first, .inl (cI, 250, .inl (te_first T))), (a_T_second, .inl (cI, 250, .inl (te_second T)))] s.heap := hP
  have hl := lv_entry ([.ref h_T, .int l1, .int l2]) (n := 4) (Nat.le_of_ble_eq_true rfl)
  rw [lg_entry_eq]
  generalize (lg_sl ([.ref h_T, .int l1, .int l2]) ++ List.replicate (4 - (lg_sl ([.ref h_T, .int l1, .int l2])).length) Slot.unset).toArray = ls at hl ⊢
  have hl : lv_has ls 4 [(0, .ref h_T), (1, .int l1), (2, .int l2)] := hl
  have in_X3 : ∀ w ∈ wsX30, w ∈ wsX3_find := by decide +kernel
  have lk_24 := hts (.fieldLink RX3 24 "SameTerms$Terms" "total" "I") (by decide +kernel)
  have lk_9 := hts (.fieldLink RX3 9 "SameTerms$Terms" "first" "[I") (by decide +kernel)
  have lk_15 := hts (.fieldLink RX3 15 "SameTerms$Terms" "second" "[I") (by decide +kernel)
  unfold wp_X3_find at hw
  refine w_goal (fun G gI gE => gI _ _ _ ?_)
  obtain ⟨H, hH⟩ : ∃ H : Heap, H = s.heap := ⟨_, rfl⟩
  obtain ⟨locs, hlocs⟩ : ∃ z : List Loc, z = [] := ⟨_, rfl⟩
  rw [← hH] at hP
  have hS : va_S A s.heap H locs := by rw [hH, hlocs]; exact hS
  refine w_start hH hlocs ?_
  refine lv_iconst (v := (0 : Int32)) hx hb dX3_find_0 (by decide) ?_
  refine lv_istore_n (lv' := [(3, .int (0 : Int32)), (0, .ref h_T), (1, .int l1), (2, .int l2)]) hx hb dX3_find_1 rfl hl (by decide) rfl (fun ls hl => ?_)
  obtain ⟨n_2, hw⟩ := hw
  have hk_2_38 : ∀ (l3_h2 : Int32) (H : Heap) (locs : List Loc) (ls : Array Slot), va_P (dC, dI) vwCl [(h_T, .inr (3, [.ref a_T_first, .ref a_T_second, .int (te_total T), .ref a_T_lastUse, .ref a_T_useBefore])), (a_T_first, .inl (cI, 250, .inl (te_first T))), (a_T_second, .inl (cI, 250, .inl (te_second T)))] H → va_D A [(h_T, .inr (3, [.ref a_T_first, .ref a_T_second, .int (te_total T), .ref a_T_lastUse, .ref a_T_useBefore])), (a_T_first, .inl (cI, 250, .inl (te_first T))), (a_T_second, .inl (cI, 250, .inl (te_second T)))] → va_S A s.heap H locs → lv_has ls 4 [(0, .ref h_T), (1, .int l1), (2, .int l2), (3, .int l3_h2)] → (K_X3_find_2_38 post) l3_h2 → G H locs (F0 m 38 ls []) := by
    intro l3_h2 H locs ls hP hD hS hl hw
    unfold K_X3_find_2_38 at hw
    refine gI _ _ _ ?_
    refine lv_iconst (v := (-1 : Int32)) hx hb dX3_find_38 (by decide) ?_
    exact W.iret (v := (-1 : Int32)) hx hb hr (fun t ht hW => ⟨⟨(-1 : Int32), (), rfl, hw, by rw [ht]; exact hP, va_K.moved hW.alike hK, hD⟩, hS.F ht⟩) hS.2.2 dX3_find_39
  have hL_2 : ∀ (n : Nat) (l3_h2 : Int32) (H : Heap) (locs : List Loc) (ls : Array Slot), va_P (dC, dI) vwCl [(h_T, .inr (3, [.ref a_T_first, .ref a_T_second, .int (te_total T), .ref a_T_lastUse, .ref a_T_useBefore])), (a_T_first, .inl (cI, 250, .inl (te_first T))), (a_T_second, .inl (cI, 250, .inl (te_second T)))] H → va_D A [(h_T, .inr (3, [.ref a_T_first, .ref a_T_second, .int (te_total T), .ref a_T_lastUse, .ref a_T_useBefore])), (a_T_first, .inl (cI, 250, .inl (te_first T))), (a_T_second, .inl (cI, 250, .inl (te_second T)))] → va_S A s.heap H locs → lv_has ls 4 [(0, .ref h_T), (1, .int l1), (2, .int l2), (3, .int l3_h2)] → wl1 (B_X3_find_2 T l1 l2 post (K_X3_find_2_38 post)) n l3_h2 → G H locs (F0 m 2 ls []) := by
    intro n
    induction n with
    | zero =>
      intro l3_h2 H locs ls hP hD hS hl hw
      exact hw.elim
    | succ n_2 ih_2 =>
      intro l3_h2 H locs ls hP hD hS hl hw
      have hw : B_X3_find_2 T l1 l2 post (K_X3_find_2_38 post) (wl1 (B_X3_find_2 T l1 l2 post (K_X3_find_2_38 post)) n_2) l3_h2 := hw
      unfold B_X3_find_2 at hw
      refine gI _ _ _ ?_
      refine lv_iload_n hx hb dX3_find_2 rfl (lv_at hl 3 rfl) ?_
      refine lv_aload_n hx hb dX3_find_3 rfl (lv_at hl 0 rfl) ?_
      refine va_get (D := (dC, dI)) (ci := 3) (v := .int (te_total T)) (C := RX3) (T := TX3) (N := 5) hx hb hts in_X3 hown hK hP 0 rfl rfl 2 (by decide) lk_24 (fun _ h9 => h9) rfl dX3_find_4 ?_
      refine lv_icmp_ge (tgt := 38) hx hb dX3_find_7 (by decide) (fun c_1 => ?_) (fun c_1 => ?_)
      · have hw := hw.1 c_1
        exact gE _ _ _ (hk_2_38 l3_h2 H locs ls hP hD hS (lv_sub hl [0, 1, 2, 3] rfl) hw)
      · have hw := hw.2 c_1
        refine lv_aload_n hx hb dX3_find_10 rfl (lv_at hl 0 rfl) ?_
        refine va_get (D := (dC, dI)) (ci := 3) (v := .ref a_T_first) (C := RX3) (T := TX3) (N := 5) hx hb hts in_X3 hown hK hP 0 rfl rfl 0 (by decide) lk_9 (fun _ h9 => h9) rfl dX3_find_11 ?_
        refine lv_iload_n hx hb dX3_find_14 rfl (lv_at hl 3 rfl) ?_
        obtain ⟨hi_2, hw⟩ := hw
        refine va_iald hx hb hK hP 1 0 rfl rfl hi_2 dX3_find_15 ?_
        refine lv_iload_n hx hb dX3_find_16 rfl (lv_at hl 1 rfl) ?_
        refine lv_icmp_ne (tgt := 32) hx hb dX3_find_17 (by decide) (fun c_3 => ?_) (fun c_3 => ?_)
        · have hw := hw.2 c_3
          refine lv_iinc (v := (l3_h2 + 1)) (lv' := [(3, .int (l3_h2 + 1)), (0, .ref h_T), (1, .int l1), (2, .int l2)]) hx hb dX3_find_32 hl (k := 3) rfl rfl (by decide) rfl (fun ls hl => ?_)
          refine lv_goto (tgt := 2) hx hb dX3_find_35 (by decide) ?_
          exact gE _ _ _ (ih_2 (l3_h2 + 1) H locs ls hP hD hS (lv_sub hl [1, 2, 3, 0] rfl) hw)
        · have hw := hw.1 c_3
          refine lv_aload_n hx hb dX3_find_20 rfl (lv_at hl 0 rfl) ?_
          refine va_get (D := (dC, dI)) (ci := 3) (v := .ref a_T_second) (C := RX3) (T := TX3) (N := 5) hx hb hts in_X3 hown hK hP 0 rfl rfl 1 (by decide) lk_15 (fun _ h9 => h9) rfl dX3_find_21 ?_
          refine lv_iload_n hx hb dX3_find_24 rfl (lv_at hl 3 rfl) ?_
          refine va_iald hx hb hK hP 2 0 rfl rfl hi_2 dX3_find_25 ?_
          refine lv_iload_n hx hb dX3_find_26 rfl (lv_at hl 2 rfl) ?_
          refine lv_icmp_ne (tgt := 32) hx hb dX3_find_27 (by decide) (fun c_4 => ?_) (fun c_4 => ?_)
          · have hw := hw.2 c_4
            refine lv_iinc (v := (l3_h2 + 1)) (lv' := [(3, .int (l3_h2 + 1)), (0, .ref h_T), (1, .int l1), (2, .int l2)]) hx hb dX3_find_32 hl (k := 3) rfl rfl (by decide) rfl (fun ls hl => ?_)
            refine lv_goto (tgt := 2) hx hb dX3_find_35 (by decide) ?_
            exact gE _ _ _ (ih_2 (l3_h2 + 1) H locs ls hP hD hS (lv_sub hl [1, 2, 3, 0] rfl) hw)
          · have hw := hw.1 c_4
            refine lv_iload_n hx hb dX3_find_30 rfl (lv_at hl 3 rfl) ?_
            exact W.iret (v := l3_h2) hx hb hr (fun t ht hW => ⟨⟨l3_h2, (), rfl, hw, by rw [ht]; exact hP, va_K.moved hW.alike hK, hD⟩, hS.F ht⟩) hS.2.2 dX3_find_31
  exact gE _ _ _ (hL_2 n_2 (0 : Int32) H locs ls hP hD hS (lv_sub hl [1, 2, 3, 0] rfl) hw)
def wp_X3_use (T : TeS) (l1 : Int32) (l2 : Int32) (post : TeS → Prop) : Prop := (vp_in l1 250 ∧ (vp_in l2 500 ∧ (post (te_s_useBefore (te_s_lastUse T (upd (te_lastUse T) l1.toNatClampNeg l2)) (upd (te_useBefore T) l2.toNatClampNeg ((te_lastUse T) l1.toNatClampNeg))))))
set_option maxHeartbeats 4000000 in
set_option maxRecDepth 100000 in
theorem c_X3_use (l : Launch) (dC : Nat → ClassId) (dI : Nat → Nat → Nat) (cI cZ : ClassId) (sz : Nat) (h_T a_T_first a_T_second a_T_lastUse a_T_useBefore : Nat) (T : TeS) (l1 : Int32) (l2 : Int32) (post : TeS → Prop) : Met l yX3_use wsX3_use ({ frames := 0, cells := 0, slots := 0, locals := 0 }) (va_Pc [.ref h_T, .int l1, .int l2] (fun U => U.heap.size = sz ∧ va_P (dC, dI) vwCl [(h_T, .inr (3, [.ref a_T_first, .ref a_T_second, .int (te_total T), .ref a_T_lastUse, .ref a_T_useBefore])), (a_T_first, .inl (cI, 250, .inl (te_first T))), (a_T_second, .inl (cI, 250, .inl (te_second T))), (a_T_lastUse, .inl (cI, 250, .inl (te_lastUse T))), (a_T_useBefore, .inl (cI, 500, .inl (te_useBefore T)))] U.heap ∧ va_K (dC, dI) vwCl [(cI, .int), (cZ, .boolean)] U ∧ va_D (fun _ => True) [(h_T, .inr (3, [.ref a_T_first, .ref a_T_second, .int (te_total T), .ref a_T_lastUse, .ref a_T_useBefore])), (a_T_first, .inl (cI, 250, .inl (te_first T))), (a_T_second, .inl (cI, 250, .inl (te_second T))), (a_T_lastUse, .inl (cI, 250, .inl (te_lastUse T))), (a_T_useBefore, .inl (cI, 500, .inl (te_useBefore T)))] ∧ wp_X3_use T l1 l2 post)) (va_Qv (fun (u : TeS) => post u) (fun (u : TeS) (t : State) => va_P (dC, dI) vwCl [(h_T, .inr (3, [.ref a_T_first, .ref a_T_second, .int (te_total u), .ref a_T_lastUse, .ref a_T_useBefore])), (a_T_first, .inl (cI, 250, .inl (te_first u))), (a_T_second, .inl (cI, 250, .inl (te_second u))), (a_T_lastUse, .inl (cI, 250, .inl (te_lastUse u))), (a_T_useBefore, .inl (cI, 500, .inl (te_useBefore u)))] t.heap ∧ va_K (dC, dI) vwCl [(cI, .int), (cZ, .boolean)] t ∧ va_D (va_A [(h_T, .inr (3, [.ref a_T_first, .ref a_T_second, .int (te_total T), .ref a_T_lastUse, .ref a_T_useBefore])), (a_T_first, .inl (cI, 250, .inl (te_first T))), (a_T_second, .inl (cI, 250, .inl (te_second T))), (a_T_lastUse, .inl (cI, 250, .inl (te_lastUse T))), (a_T_useBefore, .inl (cI, 500, .inl (te_useBefore T)))] sz) [(h_T, .inr (3, [.ref a_T_first, .ref a_T_second, .int (te_total u), .ref a_T_lastUse, .ref a_T_useBefore])), (a_T_first, .inl (cI, 250, .inl (te_first u))), (a_T_second, .inl (cI, 250, .inl (te_second u))), (a_T_lastUse, .inl (cI, 250, .inl (te_lastUse u))), (a_T_useBefore, .inl (cI, 500, .inl (te_useBefore u)))]) (va_A [(h_T, .inr (3, [.ref a_T_first, .ref a_T_second, .int (te_total T), .ref a_T_lastUse, .ref a_T_useBefore])), (a_T_first, .inl (cI, 250, .inl (te_first T))), (a_T_second, .inl (cI, 250, .inl (te_second T))), (a_T_lastUse, .inl (cI, 250, .inl (te_lastUse T))), (a_T_useBefore, .inl (cI, 500, .inl (te_useBefore T)))] sz)) 0 0 (va_A [(h_T, .inr (3, [.ref a_T_first, .ref a_T_second, .int (te_total T), .ref a_T_lastUse, .ref a_T_useBefore])), (a_T_first, .inl (cI, 250, .inl (te_first T))), (a_T_second, .inl (cI, 250, .inl (te_second T))), (a_T_lastUse, .inl (cI, 250, .inl (te_lastUse T))), (a_T_useBefore, .inl (cI, 500, .inl (te_useBefore T)))] sz) := by
  refine Met.ofW (cc := cX3_use) (maxL := 3) (ret := none) (by decide) rfl ?_
  intro p e s m args below meth c s₁ B hml hv
  obtain ⟨rfl, hsz, hP, hK, hD0, hw⟩ := hv
  have hx := B.exec
  have hb := B.bytes
  have hr := B.returns
  have hts := atoms_spec (ws := wsX3_use) B.pre
  have hown : s.vm.findClass RX3 = some m.cls := findClass_of_methodNamed B.named
  have hlocks := B.notSynchronized
  subst hsz
  have hD := hD0.self (sz := s.heap.size)
  generalize hAe : va_A [(h_T, .inr (3, [.ref a_T_first, .ref a_T_second, .int (te_total T), .ref a_T_lastUse, .ref a_T_useBefore])), (a_T_first, .inl (cI, 250, .inl (te_first T))), (a_T_second, .inl (cI, 250, .inl (te_second T))), (a_T_lastUse, .inl (cI, 250, .inl (te_lastUse T))), (a_T_useBefore, .inl (cI, 500, .inl (te_useBefore T)))] s.heap.size = A at hD ⊢
  have hA : ∀ q : Nat, s.heap.size ≤ q → A q := fun q h => by rw [← hAe]; exact Or.inr h
  have hS : va_S A s.heap s.heap [] := va_S.rf
  have hP : va_P (dC, dI) vwCl [(h_T, .inr (3, [.ref a_T_first, .ref a_T_second, .int (te_total T), .ref a_T_lastUse, .ref a_T_useBefore])), (a_T_first, .inl (cI, 250, .inl (te_first T))), (a_T_second, .inl (cI, 250, .inl (te_second T))), (a_T_lastUse, .inl (cI, 250, .inl (te_lastUse T))), (a_T_useBefore, .inl (cI, 500, .inl (te_useBefore T)))] s.heap := hP
  have hl := lv_entry ([.ref h_T, .int l1, .int l2]) (n := 3) (Nat.le_of_ble_eq_true rfl)
  rw [lg_entry_eq]
  generalize (lg_sl ([.ref h_T, .int l1, .int l2]) ++ List.replicate (3 - (lg_sl ([.ref h_T, .int l1, .int l2])).length) Slot.unset).toArray = ls at hl ⊢
  have hl : lv_has ls 3 [(0, .ref h_T), (1, .int l1), (2, .int l2)] := hl
  have in_X3 : ∀ w ∈ wsX30, w ∈ wsX3_use := by decide +kernel
  have lk_21 := hts (.fieldLink RX3 21 "SameTerms$Terms" "useBefore" "[I") (by decide +kernel)
  have lk_18 := hts (.fieldLink RX3 18 "SameTerms$Terms" "lastUse" "[I") (by decide +kernel)
  unfold wp_X3_use at hw
  refine w_goal (fun G gI gE => gI _ _ _ ?_)
  obtain ⟨H, hH⟩ : ∃ H : Heap, H = s.heap := ⟨_, rfl⟩
  obtain ⟨locs, hlocs⟩ : ∃ z : List Loc, z = [] := ⟨_, rfl⟩
  rw [← hH] at hP
  have hS : va_S A s.heap H locs := by rw [hH, hlocs]; exact hS
  refine w_start hH hlocs ?_
  refine lv_aload_n hx hb dX3_use_0 rfl (lv_at hl 0 rfl) ?_
  refine va_get (D := (dC, dI)) (ci := 3) (v := .ref a_T_useBefore) (C := RX3) (T := TX3) (N := 5) hx hb hts in_X3 hown hK hP 0 rfl rfl 4 (by decide) lk_21 (fun _ h9 => h9) rfl dX3_use_1 ?_
  refine lv_iload_n hx hb dX3_use_4 rfl (lv_at hl 2 rfl) ?_
  refine lv_aload_n hx hb dX3_use_5 rfl (lv_at hl 0 rfl) ?_
  refine va_get (D := (dC, dI)) (ci := 3) (v := .ref a_T_lastUse) (C := RX3) (T := TX3) (N := 5) hx hb hts in_X3 hown hK hP 0 rfl rfl 3 (by decide) lk_18 (fun _ h9 => h9) rfl dX3_use_6 ?_
  refine lv_iload_n hx hb dX3_use_9 rfl (lv_at hl 1 rfl) ?_
  obtain ⟨hi_1, hw⟩ := hw
  refine va_iald hx hb hK hP 3 0 rfl rfl hi_1 dX3_use_10 ?_
  obtain ⟨hi_2, hw⟩ := hw
  refine va_iast hx hb hK hP hD hS 4 0 rfl rfl hi_2 dX3_use_11 (fun H locs hP hD hS => ?_)
  have hP : va_P (dC, dI) vwCl [(h_T, .inr (3, [.ref a_T_first, .ref a_T_second, .int (te_total T), .ref a_T_lastUse, .ref a_T_useBefore])), (a_T_first, .inl (cI, 250, .inl (te_first T))), (a_T_second, .inl (cI, 250, .inl (te_second T))), (a_T_lastUse, .inl (cI, 250, .inl (te_lastUse T))), (a_T_useBefore, .inl (cI, 500, .inl (upd (te_useBefore T) l2.toNatClampNeg ((te_lastUse T) l1.toNatClampNeg))))] H := hP
  have hD : va_D A [(h_T, .inr (3, [.ref a_T_first, .ref a_T_second, .int (te_total T), .ref a_T_lastUse, .ref a_T_useBefore])), (a_T_first, .inl (cI, 250, .inl (te_first T))), (a_T_second, .inl (cI, 250, .inl (te_second T))), (a_T_lastUse, .inl (cI, 250, .inl (te_lastUse T))), (a_T_useBefore, .inl (cI, 500, .inl (upd (te_useBefore T) l2.toNatClampNeg ((te_lastUse T) l1.toNatClampNeg))))] := hD
  refine lv_aload_n hx hb dX3_use_12 rfl (lv_at hl 0 rfl) ?_
  refine va_get (D := (dC, dI)) (ci := 3) (v := .ref a_T_lastUse) (C := RX3) (T := TX3) (N := 5) hx hb hts in_X3 hown hK hP 0 rfl rfl 3 (by decide) lk_18 (fun _ h9 => h9) rfl dX3_use_13 ?_
  refine lv_iload_n hx hb dX3_use_16 rfl (lv_at hl 1 rfl) ?_
  refine lv_iload_n hx hb dX3_use_17 rfl (lv_at hl 2 rfl) ?_
  refine va_iast hx hb hK hP hD hS 3 0 rfl rfl hi_1 dX3_use_18 (fun H locs hP hD hS => ?_)
  have hP : va_P (dC, dI) vwCl [(h_T, .inr (3, [.ref a_T_first, .ref a_T_second, .int (te_total T), .ref a_T_lastUse, .ref a_T_useBefore])), (a_T_first, .inl (cI, 250, .inl (te_first T))), (a_T_second, .inl (cI, 250, .inl (te_second T))), (a_T_lastUse, .inl (cI, 250, .inl (upd (te_lastUse T) l1.toNatClampNeg l2))), (a_T_useBefore, .inl (cI, 500, .inl (upd (te_useBefore T) l2.toNatClampNeg ((te_lastUse T) l1.toNatClampNeg))))] H := hP
  have hD : va_D A [(h_T, .inr (3, [.ref a_T_first, .ref a_T_second, .int (te_total T), .ref a_T_lastUse, .ref a_T_useBefore])), (a_T_first, .inl (cI, 250, .inl (te_first T))), (a_T_second, .inl (cI, 250, .inl (te_second T))), (a_T_lastUse, .inl (cI, 250, .inl (upd (te_lastUse T) l1.toNatClampNeg l2))), (a_T_useBefore, .inl (cI, 500, .inl (upd (te_useBefore T) l2.toNatClampNeg ((te_lastUse T) l1.toNatClampNeg))))] := hD
  exact W.vret hx hb hr (fun t ht hW => ⟨⟨(te_s_useBefore (te_s_lastUse T (upd (te_lastUse T) l1.toNatClampNeg l2)) (upd (te_useBefore T) l2.toNatClampNeg ((te_lastUse T) l1.toNatClampNeg))), rfl, hw, by rw [ht]; exact hP, va_K.moved hW.alike hK, hD⟩, hS.F ht⟩) hS.2.2 dX3_use_19
def wp_X3_add (T : TeS) (l1 : Int32) (l2 : Int32) (post : Int32 → TeS → Prop) : Prop := (((te_total T) < (250 : Int32) → (∀ x_2 : Int32, x_2 = (te_total T) → (vp_in x_2 250 ∧ ((l1 = (-1 : Int32) → (post x_2 (te_s_lastUse (te_s_total (te_s_second (te_s_first T (upd (te_first T) x_2.toNatClampNeg l1)) (upd (te_second T) x_2.toNatClampNeg l2)) ((te_total T) + (1 : Int32))) (upd (te_lastUse T) x_2.toNatClampNeg (-1 : Int32))))) ∧ (¬ l1 = (-1 : Int32) → ((l2 = (-1 : Int32) → (post x_2 (te_s_lastUse (te_s_total (te_s_second (te_s_first T (upd (te_first T) x_2.toNatClampNeg l1)) (upd (te_second T) x_2.toNatClampNeg l2)) ((te_total T) + (1 : Int32))) (upd (te_lastUse T) x_2.toNatClampNeg (-1 : Int32))))) ∧ (¬ l2 = (-1 : Int32) → (wp_X3_use (te_s_lastUse (te_s_total (te_s_second (te_s_first T (upd (te_first T) x_2.toNatClampNeg l1)) (upd (te_second T) x_2.toNatClampNeg l2)) ((te_total T) + (1 : Int32))) (upd (te_lastUse T) x_2.toNatClampNeg (-1 : Int32))) l1 ((2 : Int32) * x_2) (fun T_6 => (wp_X3_use T_6 l2 (((2 : Int32) * x_2) + (1 : Int32)) (fun T_7 => (post x_2 T_7)))))))))))) ∧ (¬ (te_total T) < (250 : Int32) → (post (-3 : Int32) T)))
set_option maxHeartbeats 4000000 in
set_option maxRecDepth 100000 in
theorem c_X3_add (l : Launch) (dC : Nat → ClassId) (dI : Nat → Nat → Nat) (cI cZ : ClassId) (sz : Nat) (h_T a_T_first a_T_second a_T_lastUse a_T_useBefore : Nat) (T : TeS) (l1 : Int32) (l2 : Int32) (post : Int32 → TeS → Prop) : Met l yX3_add wsX3_add ({ frames := 1, cells := 0, slots := 0, locals := 22 }) (va_Pc [.ref h_T, .int l1, .int l2] (fun U => U.heap.size = sz ∧ va_P (dC, dI) vwCl [(h_T, .inr (3, [.ref a_T_first, .ref a_T_second, .int (te_total T), .ref a_T_lastUse, .ref a_T_useBefore])), (a_T_first, .inl (cI, 250, .inl (te_first T))), (a_T_second, .inl (cI, 250, .inl (te_second T))), (a_T_lastUse, .inl (cI, 250, .inl (te_lastUse T))), (a_T_useBefore, .inl (cI, 500, .inl (te_useBefore T)))] U.heap ∧ va_K (dC, dI) vwCl [(cI, .int), (cZ, .boolean)] U ∧ va_D (fun _ => True) [(h_T, .inr (3, [.ref a_T_first, .ref a_T_second, .int (te_total T), .ref a_T_lastUse, .ref a_T_useBefore])), (a_T_first, .inl (cI, 250, .inl (te_first T))), (a_T_second, .inl (cI, 250, .inl (te_second T))), (a_T_lastUse, .inl (cI, 250, .inl (te_lastUse T))), (a_T_useBefore, .inl (cI, 500, .inl (te_useBefore T)))] ∧ wp_X3_add T l1 l2 post)) (va_Qi (fun (r : Int32) (u : TeS) => post r u) (fun (u : TeS) (t : State) => va_P (dC, dI) vwCl [(h_T, .inr (3, [.ref a_T_first, .ref a_T_second, .int (te_total u), .ref a_T_lastUse, .ref a_T_useBefore])), (a_T_first, .inl (cI, 250, .inl (te_first u))), (a_T_second, .inl (cI, 250, .inl (te_second u))), (a_T_lastUse, .inl (cI, 250, .inl (te_lastUse u))), (a_T_useBefore, .inl (cI, 500, .inl (te_useBefore u)))] t.heap ∧ va_K (dC, dI) vwCl [(cI, .int), (cZ, .boolean)] t ∧ va_D (va_A [(h_T, .inr (3, [.ref a_T_first, .ref a_T_second, .int (te_total T), .ref a_T_lastUse, .ref a_T_useBefore])), (a_T_first, .inl (cI, 250, .inl (te_first T))), (a_T_second, .inl (cI, 250, .inl (te_second T))), (a_T_lastUse, .inl (cI, 250, .inl (te_lastUse T))), (a_T_useBefore, .inl (cI, 500, .inl (te_useBefore T)))] sz) [(h_T, .inr (3, [.ref a_T_first, .ref a_T_second, .int (te_total u), .ref a_T_lastUse, .ref a_T_useBefore])), (a_T_first, .inl (cI, 250, .inl (te_first u))), (a_T_second, .inl (cI, 250, .inl (te_second u))), (a_T_lastUse, .inl (cI, 250, .inl (te_lastUse u))), (a_T_useBefore, .inl (cI, 500, .inl (te_useBefore u)))]) (va_A [(h_T, .inr (3, [.ref a_T_first, .ref a_T_second, .int (te_total T), .ref a_T_lastUse, .ref a_T_useBefore])), (a_T_first, .inl (cI, 250, .inl (te_first T))), (a_T_second, .inl (cI, 250, .inl (te_second T))), (a_T_lastUse, .inl (cI, 250, .inl (te_lastUse T))), (a_T_useBefore, .inl (cI, 500, .inl (te_useBefore T)))] sz)) 0 0 (va_A [(h_T, .inr (3, [.ref a_T_first, .ref a_T_second, .int (te_total T), .ref a_T_lastUse, .ref a_T_useBefore])), (a_T_first, .inl (cI, 250, .inl (te_first T))), (a_T_second, .inl (cI, 250, .inl (te_second T))), (a_T_lastUse, .inl (cI, 250, .inl (te_lastUse T))), (a_T_useBefore, .inl (cI, 500, .inl (te_useBefore T)))] sz) := by
  refine Met.ofW (cc := cX3_add) (maxL := 4) (ret := (some .int)) (by decide) rfl ?_
  intro p e s m args below meth c s₁ B hml hv
  obtain ⟨rfl, hsz, hP, hK, hD0, hw⟩ := hv
  have hx := B.exec
  have hb := B.bytes
  have hr := B.returns
  have hts := atoms_spec (ws := wsX3_add) B.pre
  have hown : s.vm.findClass RX3 = some m.cls := findClass_of_methodNamed B.named
  have hlocks := B.notSynchronized
  subst hsz
  have hD := hD0.self (sz := s.heap.size)
  generalize hAe : va_A [(h_T, .inr (3, [.ref a_T_first, .ref a_T_second, .int (te_total T), .ref a_T_lastUse, .ref a_T_useBefore])), (a_T_first, .inl (cI, 250, .inl (te_first T))), (a_T_second, .inl (cI, 250, .inl (te_second T))), (a_T_lastUse, .inl (cI, 250, .inl (te_lastUse T))), (a_T_useBefore, .inl (cI, 500, .inl (te_useBefore T)))] s.heap.size = A at hD ⊢
  have hA : ∀ q : Nat, s.heap.size ≤ q → A q := fun q h => by rw [← hAe]; exact Or.inr h
  have hS : va_S A s.heap s.heap [] := va_S.rf
  have hP : va_P (dC, dI) vwCl [(h_T, .inr (3, [.ref a_T_first, .ref a_T_second, .int (te_total T), .ref a_T_lastUse, .ref a_T_useBefore])), (a_T_first, .inl (cI, 250, .inl (te_first T))), (a_T_second, .inl (cI, 250, .inl (te_second T))), (a_T_lastUse, .inl (cI, 250, .inl (te_lastUse T))), (a_T_useBefore, .inl (cI, 500, .inl (te_useBefore T)))] s.heap := hP
  have hl := lv_entry ([.ref h_T, .int l1, .int l2]) (n := 4) (Nat.le_of_ble_eq_true rfl)
  rw [lg_entry_eq]
  generalize (lg_sl ([.ref h_T, .int l1, .int l2]) ++ List.replicate (4 - (lg_sl ([.ref h_T, .int l1, .int l2])).length) Slot.unset).toArray = ls at hl ⊢
  have hl : lv_has ls 4 [(0, .ref h_T), (1, .int l1), (2, .int l2)] := hl
  have in_X3 : ∀ w ∈ wsX30, w ∈ wsX3_add := by decide +kernel
  have lk_24 := hts (.fieldLink RX3 24 "SameTerms$Terms" "total" "I") (by decide +kernel)
  have lk_9 := hts (.fieldLink RX3 9 "SameTerms$Terms" "first" "[I") (by decide +kernel)
  have lk_15 := hts (.fieldLink RX3 15 "SameTerms$Terms" "second" "[I") (by decide +kernel)
  have lk_18 := hts (.fieldLink RX3 18 "SameTerms$Terms" "lastUse" "[I") (by decide +kernel)
  unfold wp_X3_add at hw
  refine w_goal (fun G gI gE => gI _ _ _ ?_)
  obtain ⟨H, hH⟩ : ∃ H : Heap, H = s.heap := ⟨_, rfl⟩
  obtain ⟨locs, hlocs⟩ : ∃ z : List Loc, z = [] := ⟨_, rfl⟩
  rw [← hH] at hP
  have hS : va_S A s.heap H locs := by rw [hH, hlocs]; exact hS
  refine w_start hH hlocs ?_
  refine lv_aload_n hx hb dX3_add_0 rfl (lv_at hl 0 rfl) ?_
  refine va_get (D := (dC, dI)) (ci := 3) (v := .int (te_total T)) (C := RX3) (T := TX3) (N := 5) hx hb hts in_X3 hown hK hP 0 rfl rfl 2 (by decide) lk_24 (fun _ h9 => h9) rfl dX3_add_1 ?_
  refine lv_sipush (v := (250 : Int32)) hx hb dX3_add_4 (by decide) ?_
  refine lv_icmp_lt (tgt := 13) hx hb dX3_add_7 (by decide) (fun c_1 => ?_) (fun c_1 => ?_)
  · have hw := hw.1 c_1
    refine lv_aload_n hx hb dX3_add_13 rfl (lv_at hl 0 rfl) ?_
    refine va_get (D := (dC, dI)) (ci := 3) (v := .int (te_total T)) (C := RX3) (T := TX3) (N := 5) hx hb hts in_X3 hown hK hP 0 rfl rfl 2 (by decide) lk_24 (fun _ h9 => h9) rfl dX3_add_14 ?_
    refine lv_topi (fun x_2 ex_2 => ?_)
    have hw := hw x_2 ex_2
    refine lv_istore_n (lv' := [(3, .int x_2), (0, .ref h_T), (1, .int l1), (2, .int l2)]) hx hb dX3_add_17 rfl hl (by decide) rfl (fun ls hl => ?_)
    refine lv_aload_n hx hb dX3_add_18 rfl (lv_at hl 1 rfl) ?_
    refine lv_dup hx hb dX3_add_19 rfl ?_
    refine va_get (D := (dC, dI)) (ci := 3) (v := .int (te_total T)) (C := RX3) (T := TX3) (N := 5) hx hb hts in_X3 hown hK hP 0 rfl rfl 2 (by decide) lk_24 (fun _ h9 => h9) rfl dX3_add_20 ?_
    refine lv_iconst (v := (1 : Int32)) hx hb dX3_add_23 (by decide) ?_
    refine lv_iadd hx hb dX3_add_24 ?_
    refine va_put (D := (dC, dI)) (ci := 3) (v := .int ((te_total T) + (1 : Int32))) (ty := .int) (C := RX3) (T := TX3) (N := 5) hx hb hts in_X3 tyX3 tyX3_ok nmX3 hown hK hP hD hS 0 rfl rfl 2 (by decide) lk_24 (fun _ h9 => h9) rfl (by decide +kernel) rfl rfl (Nat.le_of_ble_eq_true rfl) dX3_add_25 (fun H locs hP hD hS => ?_)
    have hP : va_P (dC, dI) vwCl [(h_T, .inr (3, [.ref a_T_first, .ref a_T_second, .int ((te_total T) + (1 : Int32)), .ref a_T_lastUse, .ref a_T_useBefore])), (a_T_first, .inl (cI, 250, .inl (te_first T))), (a_T_second, .inl (cI, 250, .inl (te_second T))), (a_T_lastUse, .inl (cI, 250, .inl (te_lastUse T))), (a_T_useBefore, .inl (cI, 500, .inl (te_useBefore T)))] H := hP
    have hD : va_D A [(h_T, .inr (3, [.ref a_T_first, .ref a_T_second, .int ((te_total T) + (1 : Int32)), .ref a_T_lastUse, .ref a_T_useBefore])), (a_T_first, .inl (cI, 250, .inl (te_first T))), (a_T_second, .inl (cI, 250, .inl (te_second T))), (a_T_lastUse, .inl (cI, 250, .inl (te_lastUse T))), (a_T_useBefore, .inl (cI, 500, .inl (te_useBefore T)))] := hD
    refine lv_aload_n hx hb dX3_add_28 rfl (lv_at hl 1 rfl) ?_
    refine va_get (D := (dC, dI)) (ci := 3) (v := .ref a_T_first) (C := RX3) (T := TX3) (N := 5) hx hb hts in_X3 hown hK hP 0 rfl rfl 0 (by decide) lk_9 (fun _ h9 => h9) rfl dX3_add_29 ?_
    refine lv_iload_n hx hb dX3_add_32 rfl (lv_at hl 0 rfl) ?_
    refine lv_iload_n hx hb dX3_add_33 rfl (lv_at hl 2 rfl) ?_
    obtain ⟨hi_3, hw⟩ := hw
    refine va_iast hx hb hK hP hD hS 1 0 rfl rfl hi_3 dX3_add_34 (fun H locs hP hD hS => ?_)
    have hP : va_P (dC, dI) vwCl [(h_T, .inr (3, [.ref a_T_first, .ref a_T_second, .int ((te_total T) + (1 : Int32)), .ref a_T_lastUse, .ref a_T_useBefore])), (a_T_first, .inl (cI, 250, .inl (upd (te_first T) x_2.toNatClampNeg l1))), (a_T_second, .inl (cI, 250, .inl (te_second T))), (a_T_lastUse, .inl (cI, 250, .inl (te_lastUse T))), (a_T_useBefore, .inl (cI, 500, .inl (te_useBefore T)))] H := hP
    have hD : va_D A [(h_T, .inr (3, [.ref a_T_first, .ref a_T_second, .int ((te_total T) + (1 : Int32)), .ref a_T_lastUse, .ref a_T_useBefore])), (a_T_first, .inl (cI, 250, .inl (upd (te_first T) x_2.toNatClampNeg l1))), (a_T_second, .inl (cI, 250, .inl (te_second T))), (a_T_lastUse, .inl (cI, 250, .inl (te_lastUse T))), (a_T_useBefore, .inl (cI, 500, .inl (te_useBefore T)))] := hD
    refine lv_aload_n hx hb dX3_add_35 rfl (lv_at hl 1 rfl) ?_
    refine va_get (D := (dC, dI)) (ci := 3) (v := .ref a_T_second) (C := RX3) (T := TX3) (N := 5) hx hb hts in_X3 hown hK hP 0 rfl rfl 1 (by decide) lk_15 (fun _ h9 => h9) rfl dX3_add_36 ?_
    refine lv_iload_n hx hb dX3_add_39 rfl (lv_at hl 0 rfl) ?_
    refine lv_iload_n hx hb dX3_add_40 rfl (lv_at hl 3 rfl) ?_
    refine va_iast hx hb hK hP hD hS 2 0 rfl rfl hi_3 dX3_add_41 (fun H locs hP hD hS => ?_)
    have hP : va_P (dC, dI) vwCl [(h_T, .inr (3, [.ref a_T_first, .ref a_T_second, .int ((te_total T) + (1 : Int32)), .ref a_T_lastUse, .ref a_T_useBefore])), (a_T_first, .inl (cI, 250, .inl (upd (te_first T) x_2.toNatClampNeg l1))), (a_T_second, .inl (cI, 250, .inl (upd (te_second T) x_2.toNatClampNeg l2))), (a_T_lastUse, .inl (cI, 250, .inl (te_lastUse T))), (a_T_useBefore, .inl (cI, 500, .inl (te_useBefore T)))] H := hP
    have hD : va_D A [(h_T, .inr (3, [.ref a_T_first, .ref a_T_second, .int ((te_total T) + (1 : Int32)), .ref a_T_lastUse, .ref a_T_useBefore])), (a_T_first, .inl (cI, 250, .inl (upd (te_first T) x_2.toNatClampNeg l1))), (a_T_second, .inl (cI, 250, .inl (upd (te_second T) x_2.toNatClampNeg l2))), (a_T_lastUse, .inl (cI, 250, .inl (te_lastUse T))), (a_T_useBefore, .inl (cI, 500, .inl (te_useBefore T)))] := hD
    refine lv_aload_n hx hb dX3_add_42 rfl (lv_at hl 1 rfl) ?_
    refine va_get (D := (dC, dI)) (ci := 3) (v := .ref a_T_lastUse) (C := RX3) (T := TX3) (N := 5) hx hb hts in_X3 hown hK hP 0 rfl rfl 3 (by decide) lk_18 (fun _ h9 => h9) rfl dX3_add_43 ?_
    refine lv_iload_n hx hb dX3_add_46 rfl (lv_at hl 0 rfl) ?_
    refine lv_iconst (v := (-1 : Int32)) hx hb dX3_add_47 (by decide) ?_
    refine va_iast hx hb hK hP hD hS 3 0 rfl rfl hi_3 dX3_add_48 (fun H locs hP hD hS => ?_)
    have hP : va_P (dC, dI) vwCl [(h_T, .inr (3, [.ref a_T_first, .ref a_T_second, .int ((te_total T) + (1 : Int32)), .ref a_T_lastUse, .ref a_T_useBefore])), (a_T_first, .inl (cI, 250, .inl (upd (te_first T) x_2.toNatClampNeg l1))), (a_T_second, .inl (cI, 250, .inl (upd (te_second T) x_2.toNatClampNeg l2))), (a_T_lastUse, .inl (cI, 250, .inl (upd (te_lastUse T) x_2.toNatClampNeg (-1 : Int32)))), (a_T_useBefore, .inl (cI, 500, .inl (te_useBefore T)))] H := hP
    have hD : va_D A [(h_T, .inr (3, [.ref a_T_first, .ref a_T_second, .int ((te_total T) + (1 : Int32)), .ref a_T_lastUse, .ref a_T_useBefore])), (a_T_first, .inl (cI, 250, .inl (upd (te_first T) x_2.toNatClampNeg l1))), (a_T_second, .inl (cI, 250, .inl (upd (te_second T) x_2.toNatClampNeg l2))), (a_T_lastUse, .inl (cI, 250, .inl (upd (te_lastUse T) x_2.toNatClampNeg (-1 : Int32)))), (a_T_useBefore, .inl (cI, 500, .inl (te_useBefore T)))] := hD
    refine lv_iload_n hx hb dX3_add_49 rfl (lv_at hl 2 rfl) ?_
    refine lv_iconst (v := (-1 : Int32)) hx hb dX3_add_50 (by decide) ?_
    refine lv_icmp_eq (tgt := 77) hx hb dX3_add_51 (by decide) (fun c_4 => ?_) (fun c_4 => ?_)
    · have hw := hw.1 c_4
      refine lv_iload_n hx hb dX3_add_77 rfl (lv_at hl 0 rfl) ?_
      exact W.iret (v := x_2) hx hb hr (fun t ht hW => ⟨⟨x_2, (te_s_lastUse (te_s_total (te_s_second (te_s_first T (upd (te_first T) x_2.toNatClampNeg l1)) (upd (te_second T) x_2.toNatClampNeg l2)) ((te_total T) + (1 : Int32))) (upd (te_lastUse T) x_2.toNatClampNeg (-1 : Int32))), rfl, hw, by rw [ht]; exact hP, va_K.moved hW.alike hK, hD⟩, hS.F ht⟩) hS.2.2 dX3_add_78
    · have hw := hw.2 c_4
      refine lv_iload_n hx hb dX3_add_54 rfl (lv_at hl 3 rfl) ?_
      refine lv_iconst (v := (-1 : Int32)) hx hb dX3_add_55 (by decide) ?_
      refine lv_icmp_eq (tgt := 77) hx hb dX3_add_56 (by decide) (fun c_5 => ?_) (fun c_5 => ?_)
      · have hw := hw.1 c_5
        refine lv_iload_n hx hb dX3_add_77 rfl (lv_at hl 0 rfl) ?_
        exact W.iret (v := x_2) hx hb hr (fun t ht hW => ⟨⟨x_2, (te_s_lastUse (te_s_total (te_s_second (te_s_first T (upd (te_first T) x_2.toNatClampNeg l1)) (upd (te_second T) x_2.toNatClampNeg l2)) ((te_total T) + (1 : Int32))) (upd (te_lastUse T) x_2.toNatClampNeg (-1 : Int32))), rfl, hw, by rw [ht]; exact hP, va_K.moved hW.alike hK, hD⟩, hS.F ht⟩) hS.2.2 dX3_add_78
      · have hw := hw.2 c_5
        refine lv_aload_n hx hb dX3_add_59 rfl (lv_at hl 1 rfl) ?_
        refine lv_iload_n hx hb dX3_add_60 rfl (lv_at hl 2 rfl) ?_
        refine lv_iconst (v := (2 : Int32)) hx hb dX3_add_61 (by decide) ?_
        refine lv_iload_n hx hb dX3_add_62 rfl (lv_at hl 0 rfl) ?_
        refine lv_imul hx hb dX3_add_63 ?_
        have hPc := hP.sub (ws' := [(h_T, .inr (3, [.ref a_T_first, .ref a_T_second, .int ((te_total T) + (1 : Int32)), .ref a_T_lastUse, .ref a_T_useBefore])), (a_T_first, .inl (cI, 250, .inl (upd (te_first T) x_2.toNatClampNeg l1))), (a_T_second, .inl (cI, 250, .inl (upd (te_second T) x_2.toNatClampNeg l2))), (a_T_lastUse, .inl (cI, 250, .inl (upd (te_lastUse T) x_2.toNatClampNeg (-1 : Int32)))), (a_T_useBefore, .inl (cI, 500, .inl (te_useBefore T)))]) [0, 1, 2, 3, 4] rfl
        have hDc := hD.sub (ws' := [(h_T, .inr (3, [.ref a_T_first, .ref a_T_second, .int ((te_total T) + (1 : Int32)), .ref a_T_lastUse, .ref a_T_useBefore])), (a_T_first, .inl (cI, 250, .inl (upd (te_first T) x_2.toNatClampNeg l1))), (a_T_second, .inl (cI, 250, .inl (upd (te_second T) x_2.toNatClampNeg l2))), (a_T_lastUse, .inl (cI, 250, .inl (upd (te_lastUse T) x_2.toNatClampNeg (-1 : Int32)))), (a_T_useBefore, .inl (cI, 500, .inl (te_useBefore T)))]) [0, 1, 2, 3, 4] (by decide) rfl
        have hFc := va_free (wc := [(h_T, .inr (3, [.ref a_T_first, .ref a_T_second, .int ((te_total T) + (1 : Int32)), .ref a_T_lastUse, .ref a_T_useBefore])), (a_T_first, .inl (cI, 250, .inl (upd (te_first T) x_2.toNatClampNeg l1))), (a_T_second, .inl (cI, 250, .inl (upd (te_second T) x_2.toNatClampNeg l2))), (a_T_lastUse, .inl (cI, 250, .inl (upd (te_lastUse T) x_2.toNatClampNeg (-1 : Int32)))), (a_T_useBefore, .inl (cI, 500, .inl (te_useBefore T)))]) hD hS hA [0, 1, 2, 3, 4] rfl
        refine va_callv (va_runV (As := [.int l1, .int ((2 : Int32) * x_2)]) (rest := []) ⟨hx, hb, hml, hown, hts⟩ (c_X3_use l dC dI cI cZ H.size h_T a_T_first a_T_second a_T_lastUse a_T_useBefore (te_s_lastUse (te_s_total (te_s_second (te_s_first T (upd (te_first T) x_2.toNatClampNeg l1)) (upd (te_second T) x_2.toNatClampNeg l2)) ((te_total T) + (1 : Int32))) (upd (te_lastUse T) x_2.toNatClampNeg (-1 : Int32))) l1 ((2 : Int32) * x_2) _) (cwV 2 hts gX3_add_X3_use rfl rfl rfl (by decide +kernel) ⟨Nat.le_of_ble_eq_true rfl, Nat.le_of_ble_eq_true rfl⟩) ⟨fun a U g mk q => by obtain ⟨q0, q1, qP, qK, qD, qW⟩ := q; exact ⟨q0, q1, qP, va_K.moved (u := U) (U := U.calling g mk a) (Vm.Alike.refl U.vm) qK, qD, qW⟩, va_recv hK hPc (ci := 3) (q0 := 0) rfl rfl, fun U hU hW => ⟨rfl, by rw [hU], by rw [hU]; exact hPc, va_K.moved hW.alike hK, hDc.weaken (fun _ _ _ _ => trivial), hw⟩⟩ rfl rfl hl.1 rfl (lv_room (Nat.le_of_ble_eq_true rfl)) dX3_add_64 ⟨Nat.zero_le _, Nat.zero_le _⟩) hS (fun q _ h => hFc q h) hFc (fun u t H1 locs ht hvm hw hB hz1 hk1 hS => ?_)
        obtain ⟨T_6, rfl⟩ : ∃ z, z = u := ⟨_, rfl⟩
        obtain ⟨hP1, hK1, hD1⟩ := hB
        rw [ht] at hP1
        try dsimp only at hw
        obtain ⟨hP, hD⟩ := va_join (wr := []) (w1 := [(h_T, .inr (3, [.ref a_T_first, .ref a_T_second, .int (te_total T_6), .ref a_T_lastUse, .ref a_T_useBefore])), (a_T_first, .inl (cI, 250, .inl (te_first T_6))), (a_T_second, .inl (cI, 250, .inl (te_second T_6))), (a_T_lastUse, .inl (cI, 250, .inl (te_lastUse T_6))), (a_T_useBefore, .inl (cI, 500, .inl (te_useBefore T_6)))]) hP hD [0, 1, 2, 3, 4] [] rfl rfl (by decide) (by decide) hk1 hFc hP1 hD1
        have hP := hP.sub (ws' := [(h_T, .inr (3, [.ref a_T_first, .ref a_T_second, .int (te_total T_6), .ref a_T_lastUse, .ref a_T_useBefore])), (a_T_first, .inl (cI, 250, .inl (te_first T_6))), (a_T_second, .inl (cI, 250, .inl (te_second T_6))), (a_T_lastUse, .inl (cI, 250, .inl (te_lastUse T_6))), (a_T_useBefore, .inl (cI, 500, .inl (te_useBefore T_6)))]) [0, 1, 2, 3, 4] rfl
        have hD := hD.sub (ws' := [(h_T, .inr (3, [.ref a_T_first, .ref a_T_second, .int (te_total T_6), .ref a_T_lastUse, .ref a_T_useBefore])), (a_T_first, .inl (cI, 250, .inl (te_first T_6))), (a_T_second, .inl (cI, 250, .inl (te_second T_6))), (a_T_lastUse, .inl (cI, 250, .inl (te_lastUse T_6))), (a_T_useBefore, .inl (cI, 500, .inl (te_useBefore T_6)))]) [0, 1, 2, 3, 4] (by decide) rfl
        generalize H1 = H at hP hS ⊢
        refine lv_aload_n hx hb dX3_add_67 rfl (lv_at hl 1 rfl) ?_
        refine lv_iload_n hx hb dX3_add_68 rfl (lv_at hl 3 rfl) ?_
        refine lv_iconst (v := (2 : Int32)) hx hb dX3_add_69 (by decide) ?_
        refine lv_iload_n hx hb dX3_add_70 rfl (lv_at hl 0 rfl) ?_
        refine lv_imul hx hb dX3_add_71 ?_
        refine lv_iconst (v := (1 : Int32)) hx hb dX3_add_72 (by decide) ?_
        refine lv_iadd hx hb dX3_add_73 ?_
        have hPc := hP.sub (ws' := [(h_T, .inr (3, [.ref a_T_first, .ref a_T_second, .int (te_total T_6), .ref a_T_lastUse, .ref a_T_useBefore])), (a_T_first, .inl (cI, 250, .inl (te_first T_6))), (a_T_second, .inl (cI, 250, .inl (te_second T_6))), (a_T_lastUse, .inl (cI, 250, .inl (te_lastUse T_6))), (a_T_useBefore, .inl (cI, 500, .inl (te_useBefore T_6)))]) [0, 1, 2, 3, 4] rfl
        have hDc := hD.sub (ws' := [(h_T, .inr (3, [.ref a_T_first, .ref a_T_second, .int (te_total T_6), .ref a_T_lastUse, .ref a_T_useBefore])), (a_T_first, .inl (cI, 250, .inl (te_first T_6))), (a_T_second, .inl (cI, 250, .inl (te_second T_6))), (a_T_lastUse, .inl (cI, 250, .inl (te_lastUse T_6))), (a_T_useBefore, .inl (cI, 500, .inl (te_useBefore T_6)))]) [0, 1, 2, 3, 4] (by decide) rfl
        have hFc := va_free (wc := [(h_T, .inr (3, [.ref a_T_first, .ref a_T_second, .int (te_total T_6), .ref a_T_lastUse, .ref a_T_useBefore])), (a_T_first, .inl (cI, 250, .inl (te_first T_6))), (a_T_second, .inl (cI, 250, .inl (te_second T_6))), (a_T_lastUse, .inl (cI, 250, .inl (te_lastUse T_6))), (a_T_useBefore, .inl (cI, 500, .inl (te_useBefore T_6)))]) hD hS hA [0, 1, 2, 3, 4] rfl
        refine va_callv (va_runV (As := [.int l2, .int (((2 : Int32) * x_2) + (1 : Int32))]) (rest := []) ⟨hx, hb, hml, hown, hts⟩ (c_X3_use l dC dI cI cZ H.size h_T a_T_first a_T_second a_T_lastUse a_T_useBefore T_6 l2 (((2 : Int32) * x_2) + (1 : Int32)) _) (cwV 2 hts gX3_add_X3_use rfl rfl rfl (by decide +kernel) ⟨Nat.le_of_ble_eq_true rfl, Nat.le_of_ble_eq_true rfl⟩) ⟨fun a U g mk q => by obtain ⟨q0, q1, qP, qK, qD, qW⟩ := q; exact ⟨q0, q1, qP, va_K.moved (u := U) (U := U.calling g mk a) (Vm.Alike.refl U.vm) qK, qD, qW⟩, va_recv hK hPc (ci := 3) (q0 := 0) rfl rfl, fun U hU hW => ⟨rfl, by rw [hU], by rw [hU]; exact hPc, va_K.moved hW.alike hK, hDc.weaken (fun _ _ _ _ => trivial), hw⟩⟩ rfl rfl hl.1 rfl (lv_room (Nat.le_of_ble_eq_true rfl)) dX3_add_74 ⟨Nat.zero_le _, Nat.zero_le _⟩) hS (fun q _ h => hFc q h) hFc (fun u t H1 locs ht hvm hw hB hz1 hk1 hS => ?_)
        obtain ⟨T_7, rfl⟩ : ∃ z, z = u := ⟨_, rfl⟩
        obtain ⟨hP1, hK1, hD1⟩ := hB
        rw [ht] at hP1
        try dsimp only at hw
        obtain ⟨hP, hD⟩ := va_join (wr := []) (w1 := [(h_T, .inr (3, [.ref a_T_first, .ref a_T_second, .int (te_total T_7), .ref a_T_lastUse, .ref a_T_useBefore])), (a_T_first, .inl (cI, 250, .inl (te_first T_7))), (a_T_second, .inl (cI, 250, .inl (te_second T_7))), (a_T_lastUse, .inl (cI, 250, .inl (te_lastUse T_7))), (a_T_useBefore, .inl (cI, 500, .inl (te_useBefore T_7)))]) hP hD [0, 1, 2, 3, 4] [] rfl rfl (by decide) (by decide) hk1 hFc hP1 hD1
        have hP := hP.sub (ws' := [(h_T, .inr (3, [.ref a_T_first, .ref a_T_second, .int (te_total T_7), .ref a_T_lastUse, .ref a_T_useBefore])), (a_T_first, .inl (cI, 250, .inl (te_first T_7))), (a_T_second, .inl (cI, 250, .inl (te_second T_7))), (a_T_lastUse, .inl (cI, 250, .inl (te_lastUse T_7))), (a_T_useBefore, .inl (cI, 500, .inl (te_useBefore T_7)))]) [0, 1, 2, 3, 4] rfl
        have hD := hD.sub (ws' := [(h_T, .inr (3, [.ref a_T_first, .ref a_T_second, .int (te_total T_7), .ref a_T_lastUse, .ref a_T_useBefore])), (a_T_first, .inl (cI, 250, .inl (te_first T_7))), (a_T_second, .inl (cI, 250, .inl (te_second T_7))), (a_T_lastUse, .inl (cI, 250, .inl (te_lastUse T_7))), (a_T_useBefore, .inl (cI, 500, .inl (te_useBefore T_7)))]) [0, 1, 2, 3, 4] (by decide) rfl
        generalize H1 = H at hP hS ⊢
        refine lv_iload_n hx hb dX3_add_77 rfl (lv_at hl 0 rfl) ?_
        exact W.iret (v := x_2) hx hb hr (fun t ht hW => ⟨⟨x_2, T_7, rfl, hw, by rw [ht]; exact hP, va_K.moved hW.alike hK, hD⟩, hS.F ht⟩) hS.2.2 dX3_add_78
  · have hw := hw.2 c_1
    refine lv_bipush (v := (-3 : Int32)) hx hb dX3_add_10 (by decide) ?_
    exact W.iret (v := (-3 : Int32)) hx hb hr (fun t ht hW => ⟨⟨(-3 : Int32), T, rfl, hw, by rw [ht]; exact hP, va_K.moved hW.alike hK, hD⟩, hS.F ht⟩) hS.2.2 dX3_add_12

def K_X0_loosenUsers_6_118 (post : ClS → Prop) (l4 : Int32) (l5 : Int32) (C : ClS) : Prop := (post C)
def K_X0_loosenUsers_29_103 (F : FoS) (l4 : Int32) (l5 : Int32) (kb_6 : Int32 → Int32 → ClS → Prop) (l6 : Int32) (l7 : Int32) (C : ClS) : Prop := (vp_in l4 250 ∧ (∀ x_6 : Int32, x_6 = ((fo_nextMember F) l4.toNatClampNeg) → (kb_6 x_6 (l5 + 1) C)))
def B_X0_loosenUsers_29 (T : TeS) (ke_29_103 : Int32 → Int32 → ClS → Prop) (kb_29 : Int32 → Int32 → ClS → Prop) (l6 : Int32) (l7 : Int32) (C : ClS) : Prop := (((500 : Int32) ≤ l7 → (ke_29_103 l6 l7 C)) ∧ (¬ (500 : Int32) ≤ l7 → ((l6 = (-1 : Int32) → (ke_29_103 l6 l7 C)) ∧ (¬ l6 = (-1 : Int32) → (∀ x_9 : Int32, x_9 = (l6 / (2 : Int32)) → (vp_in x_9 250 ∧ ((((cl_stands C) x_9.toNatClampNeg) = (0 : Int32) → (vp_in l6 500 ∧ (∀ x_13 : Int32, x_13 = ((te_useBefore T) l6.toNatClampNeg) → (kb_29 x_13 (l7 + 1) C)))) ∧ (¬ ((cl_stands C) x_9.toNatClampNeg) = (0 : Int32) → (vp_in (cl_looseTotal C) 250 ∧ (vp_in l6 500 ∧ (∀ x_16 : Int32, x_16 = ((te_useBefore T) l6.toNatClampNeg) → (kb_29 x_16 (l7 + 1) (cl_s_looseTotal (cl_s_loose (cl_s_stands C (upd (cl_stands C) x_9.toNatClampNeg (0 : Int32))) (upd (cl_loose C) (cl_looseTotal C).toNatClampNeg x_9)) ((cl_looseTotal C) + (1 : Int32)))))))))))))))
def B_X0_loosenUsers_6 (T : TeS) (F : FoS) (l3 : Int32) (ke_6_118 : Int32 → Int32 → ClS → Prop) (kb_6 : Int32 → Int32 → ClS → Prop) (l4 : Int32) (l5 : Int32) (C : ClS) : Prop := (vp_in l3 250 ∧ ((((fo_members F) l3.toNatClampNeg) ≤ l5 → (ke_6_118 l4 l5 C)) ∧ (¬ ((fo_members F) l3.toNatClampNeg) ≤ l5 → (vp_in l4 250 ∧ (∀ x_4 : Int32, x_4 = ((te_lastUse T) l4.toNatClampNeg) → (∃ n : Nat, wl3 (B_X0_loosenUsers_29 T (K_X0_loosenUsers_29_103 F l4 l5 kb_6)) n x_4 (0 : Int32) C))))))
def wp_X0_loosenUsers (T : TeS) (C : ClS) (F : FoS) (l3 : Int32) (post : ClS → Prop) : Prop := (∃ n : Nat, wl3 (B_X0_loosenUsers_6 T F l3 (K_X0_loosenUsers_6_118 post)) n l3 (0 : Int32) C)
set_option maxHeartbeats 4000000 in
set_option maxRecDepth 100000 in
theorem c_X0_loosenUsers (l : Launch) (dC : Nat → ClassId) (dI : Nat → Nat → Nat) (cI cZ : ClassId) (sz : Nat) (h_T a_T_first a_T_second a_T_lastUse a_T_useBefore h_C a_C_one a_C_other a_C_bucket a_C_nextInBucket a_C_sign a_C_stands a_C_loose h_F a_F_members a_F_lowest a_F_nextMember a_F_above a_F_joined : Nat) (T : TeS) (C : ClS) (F : FoS) (l3 : Int32) (post : ClS → Prop) : Met l yX0_loosenUsers wsX0_loosenUsers ({ frames := 0, cells := 0, slots := 0, locals := 0 }) (va_Pc [.ref h_C, .ref h_T, .ref h_F, .int l3] (fun U => U.heap.size = sz ∧ va_P (dC, dI) vwCl [(h_T, .inr (3, [.ref a_T_first, .ref a_T_second, .int (te_total T), .ref a_T_lastUse, .ref a_T_useBefore])), (a_T_lastUse, .inl (cI, 250, .inl (te_lastUse T))), (a_T_useBefore, .inl (cI, 500, .inl (te_useBefore T))), (h_C, .inr (0, [.int (cl_expected C), .ref a_C_one, .ref a_C_other, .ref a_C_bucket, .ref a_C_nextInBucket, .ref a_C_sign, .ref a_C_stands, .ref a_C_loose, .int (cl_looseTotal C)])), (a_C_stands, .inl (cZ, 250, .inl (cl_stands C))), (a_C_loose, .inl (cI, 250, .inl (cl_loose C))), (h_F, .inr (1, [.ref a_F_members, .ref a_F_lowest, .ref a_F_nextMember, .int (fo_trees F), .int (fo_latest F), .ref a_F_above, .ref a_F_joined])), (a_F_members, .inl (cI, 250, .inl (fo_members F))), (a_F_nextMember, .inl (cI, 250, .inl (fo_nextMember F)))] U.heap ∧ va_K (dC, dI) vwCl [(cI, .int), (cZ, .boolean)] U ∧ va_D (fun _ => True) [(h_T, .inr (3, [.ref a_T_first, .ref a_T_second, .int (te_total T), .ref a_T_lastUse, .ref a_T_useBefore])), (a_T_lastUse, .inl (cI, 250, .inl (te_lastUse T))), (a_T_useBefore, .inl (cI, 500, .inl (te_useBefore T))), (h_C, .inr (0, [.int (cl_expected C), .ref a_C_one, .ref a_C_other, .ref a_C_bucket, .ref a_C_nextInBucket, .ref a_C_sign, .ref a_C_stands, .ref a_C_loose, .int (cl_looseTotal C)])), (a_C_stands, .inl (cZ, 250, .inl (cl_stands C))), (a_C_loose, .inl (cI, 250, .inl (cl_loose C))), (h_F, .inr (1, [.ref a_F_members, .ref a_F_lowest, .ref a_F_nextMember, .int (fo_trees F), .int (fo_latest F), .ref a_F_above, .ref a_F_joined])), (a_F_members, .inl (cI, 250, .inl (fo_members F))), (a_F_nextMember, .inl (cI, 250, .inl (fo_nextMember F)))] ∧ wp_X0_loosenUsers T C F l3 post)) (va_Qv (fun (u : ClS) => post u) (fun (u : ClS) (t : State) => va_P (dC, dI) vwCl [(h_T, .inr (3, [.ref a_T_first, .ref a_T_second, .int (te_total T), .ref a_T_lastUse, .ref a_T_useBefore])), (a_T_lastUse, .inl (cI, 250, .inl (te_lastUse T))), (a_T_useBefore, .inl (cI, 500, .inl (te_useBefore T))), (h_C, .inr (0, [.int (cl_expected u), .ref a_C_one, .ref a_C_other, .ref a_C_bucket, .ref a_C_nextInBucket, .ref a_C_sign, .ref a_C_stands, .ref a_C_loose, .int (cl_looseTotal u)])), (a_C_stands, .inl (cZ, 250, .inl (cl_stands u))), (a_C_loose, .inl (cI, 250, .inl (cl_loose u))), (h_F, .inr (1, [.ref a_F_members, .ref a_F_lowest, .ref a_F_nextMember, .int (fo_trees F), .int (fo_latest F), .ref a_F_above, .ref a_F_joined])), (a_F_members, .inl (cI, 250, .inl (fo_members F))), (a_F_nextMember, .inl (cI, 250, .inl (fo_nextMember F)))] t.heap ∧ va_K (dC, dI) vwCl [(cI, .int), (cZ, .boolean)] t ∧ va_D (va_A [(h_T, .inr (3, [.ref a_T_first, .ref a_T_second, .int (te_total T), .ref a_T_lastUse, .ref a_T_useBefore])), (a_T_lastUse, .inl (cI, 250, .inl (te_lastUse T))), (a_T_useBefore, .inl (cI, 500, .inl (te_useBefore T))), (h_C, .inr (0, [.int (cl_expected C), .ref a_C_one, .ref a_C_other, .ref a_C_bucket, .ref a_C_nextInBucket, .ref a_C_sign, .ref a_C_stands, .ref a_C_loose, .int (cl_looseTotal C)])), (a_C_stands, .inl (cZ, 250, .inl (cl_stands C))), (a_C_loose, .inl (cI, 250, .inl (cl_loose C))), (h_F, .inr (1, [.ref a_F_members, .ref a_F_lowest, .ref a_F_nextMember, .int (fo_trees F), .int (fo_latest F), .ref a_F_above, .ref a_F_joined])), (a_F_members, .inl (cI, 250, .inl (fo_members F))), (a_F_nextMember, .inl (cI, 250, .inl (fo_nextMember F)))] sz) [(h_T, .inr (3, [.ref a_T_first, .ref a_T_second, .int (te_total T), .ref a_T_lastUse, .ref a_T_useBefore])), (a_T_lastUse, .inl (cI, 250, .inl (te_lastUse T))), (a_T_useBefore, .inl (cI, 500, .inl (te_useBefore T))), (h_C, .inr (0, [.int (cl_expected u), .ref a_C_one, .ref a_C_other, .ref a_C_bucket, .ref a_C_nextInBucket, .ref a_C_sign, .ref a_C_stands, .ref a_C_loose, .int (cl_looseTotal u)])), (a_C_stands, .inl (cZ, 250, .inl (cl_stands u))), (a_C_loose, .inl (cI, 250, .inl (cl_loose u))), (h_F, .inr (1, [.ref a_F_members, .ref a_F_lowest, .ref a_F_nextMember, .int (fo_trees F), .int (fo_latest F), .ref a_F_above, .ref a_F_joined])), (a_F_members, .inl (cI, 250, .inl (fo_members F))), (a_F_nextMember, .inl (cI, 250, .inl (fo_nextMember F)))]) (va_A [(h_T, .inr (3, [.ref a_T_first, .ref a_T_second, .int (te_total T), .ref a_T_lastUse, .ref a_T_useBefore])), (a_T_lastUse, .inl (cI, 250, .inl (te_lastUse T))), (a_T_useBefore, .inl (cI, 500, .inl (te_useBefore T))), (h_C, .inr (0, [.int (cl_expected C), .ref a_C_one, .ref a_C_other, .ref a_C_bucket, .ref a_C_nextInBucket, .ref a_C_sign, .ref a_C_stands, .ref a_C_loose, .int (cl_looseTotal C)])), (a_C_stands, .inl (cZ, 250, .inl (cl_stands C))), (a_C_loose, .inl (cI, 250, .inl (cl_loose C))), (h_F, .inr (1, [.ref a_F_members, .ref a_F_lowest, .ref a_F_nextMember, .int (fo_trees F), .int (fo_latest F), .ref a_F_above, .ref a_F_joined])), (a_F_members, .inl (cI, 250, .inl (fo_members F))), (a_F_nextMember, .inl (cI, 250, .inl (fo_nextMember F)))] sz)) 0 0 (va_A [(h_T, .inr (3, [.ref a_T_first, .ref a_T_second, .int (te_total T), .ref a_T_lastUse, .ref a_T_useBefore])), (a_T_lastUse, .inl (cI, 250, .inl (te_lastUse T))), (a_T_useBefore, .inl (cI, 500, .inl (te_useBefore T))), (h_C, .inr (0, [.int (cl_expected C), .ref a_C_one, .ref a_C_other, .ref a_C_bucket, .ref a_C_nextInBucket, .ref a_C_sign, .ref a_C_stands, .ref a_C_loose, .int (cl_looseTotal C)])), (a_C_stands, .inl (cZ, 250, .inl (cl_stands C))), (a_C_loose, .inl (cI, 250, .inl (cl_loose C))), (h_F, .inr (1, [.ref a_F_members, .ref a_F_lowest, .ref a_F_nextMember, .int (fo_trees F), .int (fo_latest F), .ref a_F_above, .ref a_F_joined])), (a_F_members, .inl (cI, 250, .inl (fo_members F))), (a_F_nextMember, .inl (cI, 250, .inl (fo_nextMember F)))] sz) := by
  refine Met.ofW (cc := cX0_loosenUsers) (maxL := 9) (ret := none) (by decide) rfl ?_
  intro p e s m args below meth c s₁ B hml hv
  obtain ⟨rfl, hsz, hP, hK, hD0, hw⟩ := hv
  have hx := B.exec
  have hb := B.bytes
  have hr := B.returns
  have hts := atoms_spec (ws := wsX0_loosenUsers) B.pre
  have hown : s.vm.findClass RX0 = some m.cls := findClass_of_methodNamed B.named
  have hlocks := B.notSynchronized
  subst hsz
  have hD := hD0.self (sz := s.heap.size)
  generalize hAe : va_A [(h_T, .inr (3, [.ref a_T_first, .ref a_T_second, .int (te_total T), .ref a_T_lastUse, .ref a_T_useBefore])), (a_T_lastUse, .inl (cI, 250, .inl (te_lastUse T))), (a_T_useBefore, .inl (cI, 500, .inl (te_useBefore T))), (h_C, .inr (0, [.int (cl_expected C), .ref a_C_one, .ref a_C_other, .ref a_C_bucket, .ref a_C_nextInBucket, .ref a_C_sign, .ref a_C_stands, .ref a_C_loose, .int (cl_looseTotal C)])), (a_C_stands, .inl (cZ, 250, .inl (cl_stands C))), (a_C_loose, .inl (cI, 250, .inl (cl_loose C))), (h_F, .inr (1, [.ref a_F_members, .ref a_F_lowest, .ref a_F_nextMember, .int (fo_trees F), .int (fo_latest F), .ref a_F_above, .ref a_F_joined])), (a_F_members, .inl (cI, 250, .inl (fo_members F))), (a_F_nextMember, .inl (cI, 250, .inl (fo_nextMember F)))] s.heap.size = A at hD ⊢
  have hA : ∀ q : Nat, s.heap.size ≤ q → A q := fun q h => by rw [← hAe]; exact Or.inr h
  have hS : va_S A s.heap s.heap [] := va_S.rf
  have hP : va_P (dC, dI) vwCl [(h_T, .inr (3, [.ref a_T_first, .ref a_T_second, .int (te_total T), .ref a_T_lastUse, .ref a_T_useBefore])), (a_T_lastUse, .inl (cI, 250, .inl (te_lastUse T))), (a_T_useBefore, .inl (cI, 500, .inl (te_useBefore T))), (h_C, .inr (0, [.int (cl_expected C), .ref a_C_one, .ref a_C_other, .ref a_C_bucket, .ref a_C_nextInBucket, .ref a_C_sign, .ref a_C_stands, .ref a_C_loose, .int (cl_looseTotal C)])), (a_C_stands, .inl (cZ, 250, .inl (cl_stands C))), (a_C_loose, .inl (cI, 250, .inl (cl_loose C))), (h_F, .inr (1, [.ref a_F_members, .ref a_F_lowest, .ref a_F_nextMember, .int (fo_trees F), .int (fo_latest F), .ref a_F_above, .ref a_F_joined])), (a_F_members, .inl (cI, 250, .inl (fo_members F))), (a_F_nextMember, .inl (cI, 250, .inl (fo_nextMember F)))] s.heap := hP
  have hl := lv_entry ([.ref h_C, .ref h_T, .ref h_F, .int l3]) (n := 9) (Nat.le_of_ble_eq_true rfl)
  rw [lg_entry_eq]
  generalize (lg_sl ([.ref h_C, .ref h_T, .ref h_F, .int l3]) ++ List.replicate (9 - (lg_sl ([.ref h_C, .ref h_T, .ref h_F, .int l3])).length) Slot.unset).toArray = ls at hl ⊢
  have hl : lv_has ls 9 [(0, .ref h_C), (1, .ref h_T), (2, .ref h_F), (3, .int l3)] := hl
  have in_X0 : ∀ w ∈ wsX00, w ∈ wsX0_loosenUsers := by decide +kernel
  have in_X1 : ∀ w ∈ wsX10, w ∈ wsX0_loosenUsers := by decide +kernel
  have in_X3 : ∀ w ∈ wsX30, w ∈ wsX0_loosenUsers := by decide +kernel
  have lk_79 := hts (.fieldLink RX0 79 "SameTerms$Forest" "members" "[I") (by decide +kernel)
  have lk_89 := hts (.fieldLink RX0 89 "SameTerms$Terms" "lastUse" "[I") (by decide +kernel)
  have lk_27 := hts (.fieldLink RX0 27 "SameTerms$Closure" "stands" "[Z") (by decide +kernel)
  have lk_31 := hts (.fieldLink RX0 31 "SameTerms$Closure" "loose" "[I") (by decide +kernel)
  have lk_55 := hts (.fieldLink RX0 55 "SameTerms$Closure" "looseTotal" "I") (by decide +kernel)
  have lk_92 := hts (.fieldLink RX0 92 "SameTerms$Terms" "useBefore" "[I") (by decide +kernel)
  have lk_95 := hts (.fieldLink RX0 95 "SameTerms$Forest" "nextMember" "[I") (by decide +kernel)
  unfold wp_X0_loosenUsers at hw
  refine w_goal (fun G gI gE => gI _ _ _ ?_)
  obtain ⟨H, hH⟩ : ∃ H : Heap, H = s.heap := ⟨_, rfl⟩
  obtain ⟨locs, hlocs⟩ : ∃ z : List Loc, z = [] := ⟨_, rfl⟩
  rw [← hH] at hP
  have hS : va_S A s.heap H locs := by rw [hH, hlocs]; exact hS
  refine w_start hH hlocs ?_
  refine lv_iload_n hx hb dX0_loosenUsers_0 rfl (lv_at hl 3 rfl) ?_
  refine lv_istore (lv' := [(4, .int l3), (0, .ref h_C), (1, .ref h_T), (2, .ref h_F), (3, .int l3)]) hx hb dX0_loosenUsers_1 hl (by decide) rfl (fun ls hl => ?_)
  refine lv_iconst (v := (0 : Int32)) hx hb dX0_loosenUsers_3 (by decide) ?_
  refine lv_istore (lv' := [(5, .int (0 : Int32)), (4, .int l3), (0, .ref h_C), (1, .ref h_T), (2, .ref h_F), (3, .int l3)]) hx hb dX0_loosenUsers_4 hl (by decide) rfl (fun ls hl => ?_)
  obtain ⟨n_6, hw⟩ := hw
  have hk_6_118 : ∀ (l4_h6 : Int32) (l5_h6 : Int32) (C_h6 : ClS) (H : Heap) (locs : List Loc) (ls : Array Slot), va_P (dC, dI) vwCl [(h_T, .inr (3, [.ref a_T_first, .ref a_T_second, .int (te_total T), .ref a_T_lastUse, .ref a_T_useBefore])), (a_T_lastUse, .inl (cI, 250, .inl (te_lastUse T))), (a_T_useBefore, .inl (cI, 500, .inl (te_useBefore T))), (h_C, .inr (0, [.int (cl_expected C_h6), .ref a_C_one, .ref a_C_other, .ref a_C_bucket, .ref a_C_nextInBucket, .ref a_C_sign, .ref a_C_stands, .ref a_C_loose, .int (cl_looseTotal C_h6)])), (a_C_stands, .inl (cZ, 250, .inl (cl_stands C_h6))), (a_C_loose, .inl (cI, 250, .inl (cl_loose C_h6))), (h_F, .inr (1, [.ref a_F_members, .ref a_F_lowest, .ref a_F_nextMember, .int (fo_trees F), .int (fo_latest F), .ref a_F_above, .ref a_F_joined])), (a_F_members, .inl (cI, 250, .inl (fo_members F))), (a_F_nextMember, .inl (cI, 250, .inl (fo_nextMember F)))] H → va_D A [(h_T, .inr (3, [.ref a_T_first, .ref a_T_second, .int (te_total T), .ref a_T_lastUse, .ref a_T_useBefore])), (a_T_lastUse, .inl (cI, 250, .inl (te_lastUse T))), (a_T_useBefore, .inl (cI, 500, .inl (te_useBefore T))), (h_C, .inr (0, [.int (cl_expected C_h6), .ref a_C_one, .ref a_C_other, .ref a_C_bucket, .ref a_C_nextInBucket, .ref a_C_sign, .ref a_C_stands, .ref a_C_loose, .int (cl_looseTotal C_h6)])), (a_C_stands, .inl (cZ, 250, .inl (cl_stands C_h6))), (a_C_loose, .inl (cI, 250, .inl (cl_loose C_h6))), (h_F, .inr (1, [.ref a_F_members, .ref a_F_lowest, .ref a_F_nextMember, .int (fo_trees F), .int (fo_latest F), .ref a_F_above, .ref a_F_joined])), (a_F_members, .inl (cI, 250, .inl (fo_members F))), (a_F_nextMember, .inl (cI, 250, .inl (fo_nextMember F)))] → va_S A s.heap H locs → lv_has ls 9 [(0, .ref h_C), (1, .ref h_T), (2, .ref h_F), (3, .int l3), (4, .int l4_h6), (5, .int l5_h6)] → (K_X0_loosenUsers_6_118 post) l4_h6 l5_h6 C_h6 → G H locs (F0 m 118 ls []) := by
    intro l4_h6 l5_h6 C_h6 H locs ls hP hD hS hl hw
    unfold K_X0_loosenUsers_6_118 at hw
    refine gI _ _ _ ?_
    exact W.vret hx hb hr (fun t ht hW => ⟨⟨C_h6, rfl, hw, by rw [ht]; exact hP, va_K.moved hW.alike hK, hD⟩, hS.F ht⟩) hS.2.2 dX0_loosenUsers_118
  have hL_6 : ∀ (n : Nat) (l4_h6 : Int32) (l5_h6 : Int32) (C_h6 : ClS) (H : Heap) (locs : List Loc) (ls : Array Slot), va_P (dC, dI) vwCl [(h_T, .inr (3, [.ref a_T_first, .ref a_T_second, .int (te_total T), .ref a_T_lastUse, .ref a_T_useBefore])), (a_T_lastUse, .inl (cI, 250, .inl (te_lastUse T))), (a_T_useBefore, .inl (cI, 500, .inl (te_useBefore T))), (h_C, .inr (0, [.int (cl_expected C_h6), .ref a_C_one, .ref a_C_other, .ref a_C_bucket, .ref a_C_nextInBucket, .ref a_C_sign, .ref a_C_stands, .ref a_C_loose, .int (cl_looseTotal C_h6)])), (a_C_stands, .inl (cZ, 250, .inl (cl_stands C_h6))), (a_C_loose, .inl (cI, 250, .inl (cl_loose C_h6))), (h_F, .inr (1, [.ref a_F_members, .ref a_F_lowest, .ref a_F_nextMember, .int (fo_trees F), .int (fo_latest F), .ref a_F_above, .ref a_F_joined])), (a_F_members, .inl (cI, 250, .inl (fo_members F))), (a_F_nextMember, .inl (cI, 250, .inl (fo_nextMember F)))] H → va_D A [(h_T, .inr (3, [.ref a_T_first, .ref a_T_second, .int (te_total T), .ref a_T_lastUse, .ref a_T_useBefore])), (a_T_lastUse, .inl (cI, 250, .inl (te_lastUse T))), (a_T_useBefore, .inl (cI, 500, .inl (te_useBefore T))), (h_C, .inr (0, [.int (cl_expected C_h6), .ref a_C_one, .ref a_C_other, .ref a_C_bucket, .ref a_C_nextInBucket, .ref a_C_sign, .ref a_C_stands, .ref a_C_loose, .int (cl_looseTotal C_h6)])), (a_C_stands, .inl (cZ, 250, .inl (cl_stands C_h6))), (a_C_loose, .inl (cI, 250, .inl (cl_loose C_h6))), (h_F, .inr (1, [.ref a_F_members, .ref a_F_lowest, .ref a_F_nextMember, .int (fo_trees F), .int (fo_latest F), .ref a_F_above, .ref a_F_joined])), (a_F_members, .inl (cI, 250, .inl (fo_members F))), (a_F_nextMember, .inl (cI, 250, .inl (fo_nextMember F)))] → va_S A s.heap H locs → lv_has ls 9 [(0, .ref h_C), (1, .ref h_T), (2, .ref h_F), (3, .int l3), (4, .int l4_h6), (5, .int l5_h6)] → wl3 (B_X0_loosenUsers_6 T F l3 (K_X0_loosenUsers_6_118 post)) n l4_h6 l5_h6 C_h6 → G H locs (F0 m 6 ls []) := by
    intro n
    induction n with
    | zero =>
      intro l4_h6 l5_h6 C_h6 H locs ls hP hD hS hl hw
      exact hw.elim
    | succ n_6 ih_6 =>
      intro l4_h6 l5_h6 C_h6 H locs ls hP hD hS hl hw
      have hw : B_X0_loosenUsers_6 T F l3 (K_X0_loosenUsers_6_118 post) (wl3 (B_X0_loosenUsers_6 T F l3 (K_X0_loosenUsers_6_118 post)) n_6) l4_h6 l5_h6 C_h6 := hw
      unfold B_X0_loosenUsers_6 at hw
      refine gI _ _ _ ?_
      refine lv_iload hx hb dX0_loosenUsers_6 (lv_at hl 5 rfl) ?_
      refine lv_aload_n hx hb dX0_loosenUsers_8 rfl (lv_at hl 2 rfl) ?_
      refine va_get (D := (dC, dI)) (ci := 1) (v := .ref a_F_members) (C := RX1) (T := TX1) (N := 7) hx hb hts in_X1 hown hK hP 6 rfl rfl 0 (by decide) lk_79 (fun _ h9 => h9) rfl dX0_loosenUsers_9 ?_
      refine lv_iload_n hx hb dX0_loosenUsers_12 rfl (lv_at hl 3 rfl) ?_
      obtain ⟨hi_1, hw⟩ := hw
      refine va_iald hx hb hK hP 7 0 rfl rfl hi_1 dX0_loosenUsers_13 ?_
      refine lv_icmp_ge (tgt := 118) hx hb dX0_loosenUsers_14 (by decide) (fun c_2 => ?_) (fun c_2 => ?_)
      · have hw := hw.1 c_2
        exact gE _ _ _ (hk_6_118 l4_h6 l5_h6 C_h6 H locs ls hP hD hS (lv_sub hl [0, 1, 2, 3, 4, 5] rfl) hw)
      · have hw := hw.2 c_2
        refine lv_aload_n hx hb dX0_loosenUsers_17 rfl (lv_at hl 1 rfl) ?_
        refine va_get (D := (dC, dI)) (ci := 3) (v := .ref a_T_lastUse) (C := RX3) (T := TX3) (N := 5) hx hb hts in_X3 hown hK hP 0 rfl rfl 3 (by decide) lk_89 (fun _ h9 => h9) rfl dX0_loosenUsers_18 ?_
        refine lv_iload hx hb dX0_loosenUsers_21 (lv_at hl 4 rfl) ?_
        obtain ⟨hi_3, hw⟩ := hw
        refine va_iald hx hb hK hP 1 0 rfl rfl hi_3 dX0_loosenUsers_23 ?_
        refine lv_topi (fun x_4 ex_4 => ?_)
        have hw := hw x_4 ex_4
        refine lv_istore (lv' := [(6, .int x_4), (0, .ref h_C), (1, .ref h_T), (2, .ref h_F), (3, .int l3), (4, .int l4_h6), (5, .int l5_h6)]) hx hb dX0_loosenUsers_24 hl (by decide) rfl (fun ls hl => ?_)
        refine lv_iconst (v := (0 : Int32)) hx hb dX0_loosenUsers_26 (by decide) ?_
        refine lv_istore (lv' := [(7, .int (0 : Int32)), (6, .int x_4), (0, .ref h_C), (1, .ref h_T), (2, .ref h_F), (3, .int l3), (4, .int l4_h6), (5, .int l5_h6)]) hx hb dX0_loosenUsers_27 hl (by decide) rfl (fun ls hl => ?_)
        obtain ⟨n_29, hw⟩ := hw
        have hk_29_103 : ∀ (l6_h29 : Int32) (l7_h29 : Int32) (C_h29 : ClS) (H : Heap) (locs : List Loc) (ls : Array Slot), va_P (dC, dI) vwCl [(h_T, .inr (3, [.ref a_T_first, .ref a_T_second, .int (te_total T), .ref a_T_lastUse, .ref a_T_useBefore])), (a_T_lastUse, .inl (cI, 250, .inl (te_lastUse T))), (a_T_useBefore, .inl (cI, 500, .inl (te_useBefore T))), (h_C, .inr (0, [.int (cl_expected C_h29), .ref a_C_one, .ref a_C_other, .ref a_C_bucket, .ref a_C_nextInBucket, .ref a_C_sign, .ref a_C_stands, .ref a_C_loose, .int (cl_looseTotal C_h29)])), (a_C_stands, .inl (cZ, 250, .inl (cl_stands C_h29))), (a_C_loose, .inl (cI, 250, .inl (cl_loose C_h29))), (h_F, .inr (1, [.ref a_F_members, .ref a_F_lowest, .ref a_F_nextMember, .int (fo_trees F), .int (fo_latest F), .ref a_F_above, .ref a_F_joined])), (a_F_members, .inl (cI, 250, .inl (fo_members F))), (a_F_nextMember, .inl (cI, 250, .inl (fo_nextMember F)))] H → va_D A [(h_T, .inr (3, [.ref a_T_first, .ref a_T_second, .int (te_total T), .ref a_T_lastUse, .ref a_T_useBefore])), (a_T_lastUse, .inl (cI, 250, .inl (te_lastUse T))), (a_T_useBefore, .inl (cI, 500, .inl (te_useBefore T))), (h_C, .inr (0, [.int (cl_expected C_h29), .ref a_C_one, .ref a_C_other, .ref a_C_bucket, .ref a_C_nextInBucket, .ref a_C_sign, .ref a_C_stands, .ref a_C_loose, .int (cl_looseTotal C_h29)])), (a_C_stands, .inl (cZ, 250, .inl (cl_stands C_h29))), (a_C_loose, .inl (cI, 250, .inl (cl_loose C_h29))), (h_F, .inr (1, [.ref a_F_members, .ref a_F_lowest, .ref a_F_nextMember, .int (fo_trees F), .int (fo_latest F), .ref a_F_above, .ref a_F_joined])), (a_F_members, .inl (cI, 250, .inl (fo_members F))), (a_F_nextMember, .inl (cI, 250, .inl (fo_nextMember F)))] → va_S A s.heap H locs → lv_has ls 9 [(0, .ref h_C), (1, .ref h_T), (2, .ref h_F), (3, .int l3), (4, .int l4_h6), (5, .int l5_h6), (6, .int l6_h29), (7, .int l7_h29)] → (K_X0_loosenUsers_29_103 F l4_h6 l5_h6 (wl3 (B_X0_loosenUsers_6 T F l3 (K_X0_loosenUsers_6_118 post)) n_6)) l6_h29 l7_h29 C_h29 → G H locs (F0 m 103 ls []) := by
          intro l6_h29 l7_h29 C_h29 H locs ls hP hD hS hl hw
          unfold K_X0_loosenUsers_29_103 at hw
          refine gI _ _ _ ?_
          refine lv_aload_n hx hb dX0_loosenUsers_103 rfl (lv_at hl 2 rfl) ?_
          refine va_get (D := (dC, dI)) (ci := 1) (v := .ref a_F_nextMember) (C := RX1) (T := TX1) (N := 7) hx hb hts in_X1 hown hK hP 6 rfl rfl 2 (by decide) lk_95 (fun _ h9 => h9) rfl dX0_loosenUsers_104 ?_
          refine lv_iload hx hb dX0_loosenUsers_107 (lv_at hl 4 rfl) ?_
          obtain ⟨hi_5, hw⟩ := hw
          refine va_iald hx hb hK hP 8 0 rfl rfl hi_5 dX0_loosenUsers_109 ?_
          refine lv_topi (fun x_6 ex_6 => ?_)
          have hw := hw x_6 ex_6
          refine lv_istore (lv' := [(4, .int x_6), (0, .ref h_C), (1, .ref h_T), (2, .ref h_F), (3, .int l3), (5, .int l5_h6), (6, .int l6_h29), (7, .int l7_h29)]) hx hb dX0_loosenUsers_110 hl (by decide) rfl (fun ls hl => ?_)
          refine lv_iinc (v := (l5_h6 + 1)) (lv' := [(5, .int (l5_h6 + 1)), (4, .int x_6), (0, .ref h_C), (1, .ref h_T), (2, .ref h_F), (3, .int l3), (6, .int l6_h29), (7, .int l7_h29)]) hx hb dX0_loosenUsers_112 hl (k := 5) rfl rfl (by decide) rfl (fun ls hl => ?_)
          refine lv_goto (tgt := 6) hx hb dX0_loosenUsers_115 (by decide) ?_
          exact gE _ _ _ (ih_6 x_6 (l5_h6 + 1) C_h29 H locs ls hP hD hS (lv_sub hl [2, 3, 4, 5, 1, 0] rfl) hw)
        have hL_29 : ∀ (n : Nat) (l6_h29 : Int32) (l7_h29 : Int32) (C_h29 : ClS) (H : Heap) (locs : List Loc) (ls : Array Slot), va_P (dC, dI) vwCl [(h_T, .inr (3, [.ref a_T_first, .ref a_T_second, .int (te_total T), .ref a_T_lastUse, .ref a_T_useBefore])), (a_T_lastUse, .inl (cI, 250, .inl (te_lastUse T))), (a_T_useBefore, .inl (cI, 500, .inl (te_useBefore T))), (h_C, .inr (0, [.int (cl_expected C_h29), .ref a_C_one, .ref a_C_other, .ref a_C_bucket, .ref a_C_nextInBucket, .ref a_C_sign, .ref a_C_stands, .ref a_C_loose, .int (cl_looseTotal C_h29)])), (a_C_stands, .inl (cZ, 250, .inl (cl_stands C_h29))), (a_C_loose, .inl (cI, 250, .inl (cl_loose C_h29))), (h_F, .inr (1, [.ref a_F_members, .ref a_F_lowest, .ref a_F_nextMember, .int (fo_trees F), .int (fo_latest F), .ref a_F_above, .ref a_F_joined])), (a_F_members, .inl (cI, 250, .inl (fo_members F))), (a_F_nextMember, .inl (cI, 250, .inl (fo_nextMember F)))] H → va_D A [(h_T, .inr (3, [.ref a_T_first, .ref a_T_second, .int (te_total T), .ref a_T_lastUse, .ref a_T_useBefore])), (a_T_lastUse, .inl (cI, 250, .inl (te_lastUse T))), (a_T_useBefore, .inl (cI, 500, .inl (te_useBefore T))), (h_C, .inr (0, [.int (cl_expected C_h29), .ref a_C_one, .ref a_C_other, .ref a_C_bucket, .ref a_C_nextInBucket, .ref a_C_sign, .ref a_C_stands, .ref a_C_loose, .int (cl_looseTotal C_h29)])), (a_C_stands, .inl (cZ, 250, .inl (cl_stands C_h29))), (a_C_loose, .inl (cI, 250, .inl (cl_loose C_h29))), (h_F, .inr (1, [.ref a_F_members, .ref a_F_lowest, .ref a_F_nextMember, .int (fo_trees F), .int (fo_latest F), .ref a_F_above, .ref a_F_joined])), (a_F_members, .inl (cI, 250, .inl (fo_members F))), (a_F_nextMember, .inl (cI, 250, .inl (fo_nextMember F)))] → va_S A s.heap H locs → lv_has ls 9 [(0, .ref h_C), (1, .ref h_T), (2, .ref h_F), (3, .int l3), (4, .int l4_h6), (5, .int l5_h6), (6, .int l6_h29), (7, .int l7_h29)] → wl3 (B_X0_loosenUsers_29 T (K_X0_loosenUsers_29_103 F l4_h6 l5_h6 (wl3 (B_X0_loosenUsers_6 T F l3 (K_X0_loosenUsers_6_118 post)) n_6))) n l6_h29 l7_h29 C_h29 → G H locs (F0 m 29 ls []) := by
          intro n
          induction n with
          | zero =>
            intro l6_h29 l7_h29 C_h29 H locs ls hP hD hS hl hw
            exact hw.elim
          | succ n_29 ih_29 =>
            intro l6_h29 l7_h29 C_h29 H locs ls hP hD hS hl hw
            have hw : B_X0_loosenUsers_29 T (K_X0_loosenUsers_29_103 F l4_h6 l5_h6 (wl3 (B_X0_loosenUsers_6 T F l3 (K_X0_loosenUsers_6_118 post)) n_6)) (wl3 (B_X0_loosenUsers_29 T (K_X0_loosenUsers_29_103 F l4_h6 l5_h6 (wl3 (B_X0_loosenUsers_6 T F l3 (K_X0_loosenUsers_6_118 post)) n_6))) n_29) l6_h29 l7_h29 C_h29 := hw
            unfold B_X0_loosenUsers_29 at hw
            refine gI _ _ _ ?_
            refine lv_iload hx hb dX0_loosenUsers_29 (lv_at hl 7 rfl) ?_
            refine lv_sipush (v := (500 : Int32)) hx hb dX0_loosenUsers_31 (by decide) ?_
            refine lv_icmp_ge (tgt := 103) hx hb dX0_loosenUsers_34 (by decide) (fun c_7 => ?_) (fun c_7 => ?_)
            · have hw := hw.1 c_7
              exact gE _ _ _ (hk_29_103 l6_h29 l7_h29 C_h29 H locs ls hP hD hS (lv_sub hl [0, 1, 2, 3, 4, 5, 6, 7] rfl) hw)
            · have hw := hw.2 c_7
              refine lv_iload hx hb dX0_loosenUsers_37 (lv_at hl 6 rfl) ?_
              refine lv_iconst (v := (-1 : Int32)) hx hb dX0_loosenUsers_39 (by decide) ?_
              refine lv_icmp_eq (tgt := 103) hx hb dX0_loosenUsers_40 (by decide) (fun c_8 => ?_) (fun c_8 => ?_)
              · have hw := hw.1 c_8
                exact gE _ _ _ (hk_29_103 l6_h29 l7_h29 C_h29 H locs ls hP hD hS (lv_sub hl [0, 1, 2, 3, 4, 5, 6, 7] rfl) hw)
              · have hw := hw.2 c_8
                refine lv_iload hx hb dX0_loosenUsers_43 (lv_at hl 6 rfl) ?_
                refine lv_iconst (v := (2 : Int32)) hx hb dX0_loosenUsers_45 (by decide) ?_
                refine lv_idiv hx hb dX0_loosenUsers_46 (by decide) ?_
                refine lv_topi (fun x_9 ex_9 => ?_)
                have hw := hw x_9 ex_9
                refine lv_istore (lv' := [(8, .int x_9), (0, .ref h_C), (1, .ref h_T), (2, .ref h_F), (3, .int l3), (4, .int l4_h6), (5, .int l5_h6), (6, .int l6_h29), (7, .int l7_h29)]) hx hb dX0_loosenUsers_47 hl (by decide) rfl (fun ls hl => ?_)
                refine lv_aload_n hx hb dX0_loosenUsers_49 rfl (lv_at hl 1 rfl) ?_
                refine va_get (D := (dC, dI)) (ci := 0) (v := .ref a_C_stands) (C := RX0) (T := TX0) (N := 9) hx hb hts in_X0 hown hK hP 3 rfl rfl 6 (by decide) lk_27 (fun _ h9 => h9) rfl dX0_loosenUsers_50 ?_
                refine lv_iload hx hb dX0_loosenUsers_53 (lv_at hl 0 rfl) ?_
                obtain ⟨hi_10, hw⟩ := hw
                refine va_zald hx hb hK hP 4 1 rfl rfl hi_10 dX0_loosenUsers_55 ?_
                refine lv_if_eq (tgt := 88) hx hb dX0_loosenUsers_56 (by decide) (fun c_11 => ?_) (fun c_11 => ?_)
                · have hw := hw.1 c_11
                  refine lv_aload_n hx hb dX0_loosenUsers_88 rfl (lv_at hl 2 rfl) ?_
                  refine va_get (D := (dC, dI)) (ci := 3) (v := .ref a_T_useBefore) (C := RX3) (T := TX3) (N := 5) hx hb hts in_X3 hown hK hP 0 rfl rfl 4 (by decide) lk_92 (fun _ h9 => h9) rfl dX0_loosenUsers_89 ?_
                  refine lv_iload hx hb dX0_loosenUsers_92 (lv_at hl 7 rfl) ?_
                  obtain ⟨hi_12, hw⟩ := hw
                  refine va_iald hx hb hK hP 2 0 rfl rfl hi_12 dX0_loosenUsers_94 ?_
                  refine lv_topi (fun x_13 ex_13 => ?_)
                  have hw := hw x_13 ex_13
                  refine lv_istore (lv' := [(6, .int x_13), (8, .int x_9), (0, .ref h_C), (1, .ref h_T), (2, .ref h_F), (3, .int l3), (4, .int l4_h6), (5, .int l5_h6), (7, .int l7_h29)]) hx hb dX0_loosenUsers_95 hl (by decide) rfl (fun ls hl => ?_)
                  refine lv_iinc (v := (l7_h29 + 1)) (lv' := [(7, .int (l7_h29 + 1)), (6, .int x_13), (8, .int x_9), (0, .ref h_C), (1, .ref h_T), (2, .ref h_F), (3, .int l3), (4, .int l4_h6), (5, .int l5_h6)]) hx hb dX0_loosenUsers_97 hl (k := 8) rfl rfl (by decide) rfl (fun ls hl => ?_)
                  refine lv_goto (tgt := 29) hx hb dX0_loosenUsers_100 (by decide) ?_
                  exact gE _ _ _ (ih_29 x_13 (l7_h29 + 1) C_h29 H locs ls hP hD hS (lv_sub hl [3, 4, 5, 6, 7, 8, 1, 0] rfl) hw)
                · have hw := hw.2 c_11
                  refine lv_aload_n hx hb dX0_loosenUsers_59 rfl (lv_at hl 1 rfl) ?_
                  refine va_get (D := (dC, dI)) (ci := 0) (v := .ref a_C_stands) (C := RX0) (T := TX0) (N := 9) hx hb hts in_X0 hown hK hP 3 rfl rfl 6 (by decide) lk_27 (fun _ h9 => h9) rfl dX0_loosenUsers_60 ?_
                  refine lv_iload hx hb dX0_loosenUsers_63 (lv_at hl 0 rfl) ?_
                  refine lv_iconst (v := (0 : Int32)) hx hb dX0_loosenUsers_65 (by decide) ?_
                  refine va_zast hx hb hK hP hD hS 4 1 rfl rfl hi_10 dX0_loosenUsers_66 (fun H locs hP hD hS => ?_)
                  have hP : va_P (dC, dI) vwCl [(h_T, .inr (3, [.ref a_T_first, .ref a_T_second, .int (te_total T), .ref a_T_lastUse, .ref a_T_useBefore])), (a_T_lastUse, .inl (cI, 250, .inl (te_lastUse T))), (a_T_useBefore, .inl (cI, 500, .inl (te_useBefore T))), (h_C, .inr (0, [.int (cl_expected C_h29), .ref a_C_one, .ref a_C_other, .ref a_C_bucket, .ref a_C_nextInBucket, .ref a_C_sign, .ref a_C_stands, .ref a_C_loose, .int (cl_looseTotal C_h29)])), (a_C_stands, .inl (cZ, 250, .inl (upd (cl_stands C_h29) x_9.toNatClampNeg (0 : Int32)))), (a_C_loose, .inl (cI, 250, .inl (cl_loose C_h29))), (h_F, .inr (1, [.ref a_F_members, .ref a_F_lowest, .ref a_F_nextMember, .int (fo_trees F), .int (fo_latest F), .ref a_F_above, .ref a_F_joined])), (a_F_members, .inl (cI, 250, .inl (fo_members F))), (a_F_nextMember, .inl (cI, 250, .inl (fo_nextMember F)))] H := hP
                  have hD : va_D A [(h_T, .inr (3, [.ref a_T_first, .ref a_T_second, .int (te_total T), .ref a_T_lastUse, .ref a_T_useBefore])), (a_T_lastUse, .inl (cI, 250, .inl (te_lastUse T))), (a_T_useBefore, .inl (cI, 500, .inl (te_useBefore T))), (h_C, .inr (0, [.int (cl_expected C_h29), .ref a_C_one, .ref a_C_other, .ref a_C_bucket, .ref a_C_nextInBucket, .ref a_C_sign, .ref a_C_stands, .ref a_C_loose, .int (cl_looseTotal C_h29)])), (a_C_stands, .inl (cZ, 250, .inl (upd (cl_stands C_h29) x_9.toNatClampNeg (0 : Int32)))), (a_C_loose, .inl (cI, 250, .inl (cl_loose C_h29))), (h_F, .inr (1, [.ref a_F_members, .ref a_F_lowest, .ref a_F_nextMember, .int (fo_trees F), .int (fo_latest F), .ref a_F_above, .ref a_F_joined])), (a_F_members, .inl (cI, 250, .inl (fo_members F))), (a_F_nextMember, .inl (cI, 250, .inl (fo_nextMember F)))] := hD
                  refine lv_aload_n hx hb dX0_loosenUsers_67 rfl (lv_at hl 1 rfl) ?_
                  refine va_get (D := (dC, dI)) (ci := 0) (v := .ref a_C_loose) (C := RX0) (T := TX0) (N := 9) hx hb hts in_X0 hown hK hP 3 rfl rfl 7 (by decide) lk_31 (fun _ h9 => h9) rfl dX0_loosenUsers_68 ?_
                  refine lv_aload_n hx hb dX0_loosenUsers_71 rfl (lv_at hl 1 rfl) ?_
                  refine va_get (D := (dC, dI)) (ci := 0) (v := .int (cl_looseTotal C_h29)) (C := RX0) (T := TX0) (N := 9) hx hb hts in_X0 hown hK hP 3 rfl rfl 8 (by decide) lk_55 (fun _ h9 => h9) rfl dX0_loosenUsers_72 ?_
                  refine lv_iload hx hb dX0_loosenUsers_75 (lv_at hl 0 rfl) ?_
                  obtain ⟨hi_14, hw⟩ := hw
                  refine va_iast hx hb hK hP hD hS 5 0 rfl rfl hi_14 dX0_loosenUsers_77 (fun H locs hP hD hS => ?_)
                  have hP : va_P (dC, dI) vwCl [(h_T, .inr (3, [.ref a_T_first, .ref a_T_second, .int (te_total T), .ref a_T_lastUse, .ref a_T_useBefore])), (a_T_lastUse, .inl (cI, 250, .inl (te_lastUse T))), (a_T_useBefore, .inl (cI, 500, .inl (te_useBefore T))), (h_C, .inr (0, [.int (cl_expected C_h29), .ref a_C_one, .ref a_C_other, .ref a_C_bucket, .ref a_C_nextInBucket, .ref a_C_sign, .ref a_C_stands, .ref a_C_loose, .int (cl_looseTotal C_h29)])), (a_C_stands, .inl (cZ, 250, .inl (upd (cl_stands C_h29) x_9.toNatClampNeg (0 : Int32)))), (a_C_loose, .inl (cI, 250, .inl (upd (cl_loose C_h29) (cl_looseTotal C_h29).toNatClampNeg x_9))), (h_F, .inr (1, [.ref a_F_members, .ref a_F_lowest, .ref a_F_nextMember, .int (fo_trees F), .int (fo_latest F), .ref a_F_above, .ref a_F_joined])), (a_F_members, .inl (cI, 250, .inl (fo_members F))), (a_F_nextMember, .inl (cI, 250, .inl (fo_nextMember F)))] H := hP
                  have hD : va_D A [(h_T, .inr (3, [.ref a_T_first, .ref a_T_second, .int (te_total T), .ref a_T_lastUse, .ref a_T_useBefore])), (a_T_lastUse, .inl (cI, 250, .inl (te_lastUse T))), (a_T_useBefore, .inl (cI, 500, .inl (te_useBefore T))), (h_C, .inr (0, [.int (cl_expected C_h29), .ref a_C_one, .ref a_C_other, .ref a_C_bucket, .ref a_C_nextInBucket, .ref a_C_sign, .ref a_C_stands, .ref a_C_loose, .int (cl_looseTotal C_h29)])), (a_C_stands, .inl (cZ, 250, .inl (upd (cl_stands C_h29) x_9.toNatClampNeg (0 : Int32)))), (a_C_loose, .inl (cI, 250, .inl (upd (cl_loose C_h29) (cl_looseTotal C_h29).toNatClampNeg x_9))), (h_F, .inr (1, [.ref a_F_members, .ref a_F_lowest, .ref a_F_nextMember, .int (fo_trees F), .int (fo_latest F), .ref a_F_above, .ref a_F_joined])), (a_F_members, .inl (cI, 250, .inl (fo_members F))), (a_F_nextMember, .inl (cI, 250, .inl (fo_nextMember F)))] := hD
                  refine lv_aload_n hx hb dX0_loosenUsers_78 rfl (lv_at hl 1 rfl) ?_
                  refine lv_dup hx hb dX0_loosenUsers_79 rfl ?_
                  refine va_get (D := (dC, dI)) (ci := 0) (v := .int (cl_looseTotal C_h29)) (C := RX0) (T := TX0) (N := 9) hx hb hts in_X0 hown hK hP 3 rfl rfl 8 (by decide) lk_55 (fun _ h9 => h9) rfl dX0_loosenUsers_80 ?_
                  refine lv_iconst (v := (1 : Int32)) hx hb dX0_loosenUsers_83 (by decide) ?_
                  refine lv_iadd hx hb dX0_loosenUsers_84 ?_
                  refine va_put (D := (dC, dI)) (ci := 0) (v := .int ((cl_looseTotal C_h29) + (1 : Int32))) (ty := .int) (C := RX0) (T := TX0) (N := 9) hx hb hts in_X0 tyX0 tyX0_ok nmX0 hown hK hP hD hS 3 rfl rfl 8 (by decide) lk_55 (fun _ h9 => h9) rfl (by decide +kernel) rfl rfl (Nat.le_of_ble_eq_true rfl) dX0_loosenUsers_85 (fun H locs hP hD hS => ?_)
                  have hP : va_P (dC, dI) vwCl [(h_T, .inr (3, [.ref a_T_first, .ref a_T_second, .int (te_total T), .ref a_T_lastUse, .ref a_T_useBefore])), (a_T_lastUse, .inl (cI, 250, .inl (te_lastUse T))), (a_T_useBefore, .inl (cI, 500, .inl (te_useBefore T))), (h_C, .inr (0, [.int (cl_expected C_h29), .ref a_C_one, .ref a_C_other, .ref a_C_bucket, .ref a_C_nextInBucket, .ref a_C_sign, .ref a_C_stands, .ref a_C_loose, .int ((cl_looseTotal C_h29) + (1 : Int32))])), (a_C_stands, .inl (cZ, 250, .inl (upd (cl_stands C_h29) x_9.toNatClampNeg (0 : Int32)))), (a_C_loose, .inl (cI, 250, .inl (upd (cl_loose C_h29) (cl_looseTotal C_h29).toNatClampNeg x_9))), (h_F, .inr (1, [.ref a_F_members, .ref a_F_lowest, .ref a_F_nextMember, .int (fo_trees F), .int (fo_latest F), .ref a_F_above, .ref a_F_joined])), (a_F_members, .inl (cI, 250, .inl (fo_members F))), (a_F_nextMember, .inl (cI, 250, .inl (fo_nextMember F)))] H := hP
                  have hD : va_D A [(h_T, .inr (3, [.ref a_T_first, .ref a_T_second, .int (te_total T), .ref a_T_lastUse, .ref a_T_useBefore])), (a_T_lastUse, .inl (cI, 250, .inl (te_lastUse T))), (a_T_useBefore, .inl (cI, 500, .inl (te_useBefore T))), (h_C, .inr (0, [.int (cl_expected C_h29), .ref a_C_one, .ref a_C_other, .ref a_C_bucket, .ref a_C_nextInBucket, .ref a_C_sign, .ref a_C_stands, .ref a_C_loose, .int ((cl_looseTotal C_h29) + (1 : Int32))])), (a_C_stands, .inl (cZ, 250, .inl (upd (cl_stands C_h29) x_9.toNatClampNeg (0 : Int32)))), (a_C_loose, .inl (cI, 250, .inl (upd (cl_loose C_h29) (cl_looseTotal C_h29).toNatClampNeg x_9))), (h_F, .inr (1, [.ref a_F_members, .ref a_F_lowest, .ref a_F_nextMember, .int (fo_trees F), .int (fo_latest F), .ref a_F_above, .ref a_F_joined])), (a_F_members, .inl (cI, 250, .inl (fo_members F))), (a_F_nextMember, .inl (cI, 250, .inl (fo_nextMember F)))] := hD
                  refine lv_aload_n hx hb dX0_loosenUsers_88 rfl (lv_at hl 2 rfl) ?_
                  refine va_get (D := (dC, dI)) (ci := 3) (v := .ref a_T_useBefore) (C := RX3) (T := TX3) (N := 5) hx hb hts in_X3 hown hK hP 0 rfl rfl 4 (by decide) lk_92 (fun _ h9 => h9) rfl dX0_loosenUsers_89 ?_
                  refine lv_iload hx hb dX0_loosenUsers_92 (lv_at hl 7 rfl) ?_
                  obtain ⟨hi_15, hw⟩ := hw
                  refine va_iald hx hb hK hP 2 0 rfl rfl hi_15 dX0_loosenUsers_94 ?_
                  refine lv_topi (fun x_16 ex_16 => ?_)
                  have hw := hw x_16 ex_16
                  refine lv_istore (lv' := [(6, .int x_16), (8, .int x_9), (0, .ref h_C), (1, .ref h_T), (2, .ref h_F), (3, .int l3), (4, .int l4_h6), (5, .int l5_h6), (7, .int l7_h29)]) hx hb dX0_loosenUsers_95 hl (by decide) rfl (fun ls hl => ?_)
                  refine lv_iinc (v := (l7_h29 + 1)) (lv' := [(7, .int (l7_h29 + 1)), (6, .int x_16), (8, .int x_9), (0, .ref h_C), (1, .ref h_T), (2, .ref h_F), (3, .int l3), (4, .int l4_h6), (5, .int l5_h6)]) hx hb dX0_loosenUsers_97 hl (k := 8) rfl rfl (by decide) rfl (fun ls hl => ?_)
                  refine lv_goto (tgt := 29) hx hb dX0_loosenUsers_100 (by decide) ?_
                  exact gE _ _ _ (ih_29 x_16 (l7_h29 + 1) (cl_s_looseTotal (cl_s_loose (cl_s_stands C_h29 (upd (cl_stands C_h29) x_9.toNatClampNeg (0 : Int32))) (upd (cl_loose C_h29) (cl_looseTotal C_h29).toNatClampNeg x_9)) ((cl_looseTotal C_h29) + (1 : Int32))) H locs ls hP hD hS (lv_sub hl [3, 4, 5, 6, 7, 8, 1, 0] rfl) hw)
        exact gE _ _ _ (hL_29 n_29 x_4 (0 : Int32) C_h6 H locs ls hP hD hS (lv_sub hl [2, 3, 4, 5, 6, 7, 1, 0] rfl) hw)
  exact gE _ _ _ (hL_6 n_6 l3 (0 : Int32) C H locs ls hP hD hS (lv_sub hl [2, 3, 4, 5, 1, 0] rfl) hw)
def K_X0_takeOut_44_93 (post : ClS → Prop) (l3 : Int32) (l4 : Int32) (C : ClS) : Prop := (post C)
def B_X0_takeOut_44 (l1 : Int32) (post : ClS → Prop) (ke_44_93 : Int32 → Int32 → ClS → Prop) (kb_44 : Int32 → Int32 → ClS → Prop) (l3 : Int32) (l4 : Int32) (C : ClS) : Prop := (((250 : Int32) ≤ l4 → (ke_44_93 l3 l4 C)) ∧ (¬ (250 : Int32) ≤ l4 → ((l3 = (-1 : Int32) → (ke_44_93 l3 l4 C)) ∧ (¬ l3 = (-1 : Int32) → (vp_in l3 250 ∧ ((((cl_nextInBucket C) l3.toNatClampNeg) = l1 → (vp_in l1 250 ∧ (post (cl_s_nextInBucket C (upd (cl_nextInBucket C) l3.toNatClampNeg ((cl_nextInBucket C) l1.toNatClampNeg)))))) ∧ (¬ ((cl_nextInBucket C) l3.toNatClampNeg) = l1 → (∀ x_11 : Int32, x_11 = ((cl_nextInBucket C) l3.toNatClampNeg) → (kb_44 x_11 (l4 + 1) C)))))))))
def wp_X0_takeOut (C : ClS) (l1 : Int32) (post : ClS → Prop) : Prop := (vp_in l1 250 ∧ (∀ x_2 : Int32, x_2 = (((cl_sign C) l1.toNatClampNeg) - ((cl_sign C) l1.toNatClampNeg) / (256 : Int32) * (256 : Int32)) → (vp_in x_2 256 ∧ ((((cl_bucket C) x_2.toNatClampNeg) = l1 → (post (cl_s_bucket C (upd (cl_bucket C) x_2.toNatClampNeg ((cl_nextInBucket C) l1.toNatClampNeg))))) ∧ (¬ ((cl_bucket C) x_2.toNatClampNeg) = l1 → (∀ x_5 : Int32, x_5 = ((cl_bucket C) x_2.toNatClampNeg) → (∃ n : Nat, wl3 (B_X0_takeOut_44 l1 post (K_X0_takeOut_44_93 post)) n x_5 (0 : Int32) C)))))))
set_option maxHeartbeats 4000000 in
set_option maxRecDepth 100000 in
theorem c_X0_takeOut (l : Launch) (dC : Nat → ClassId) (dI : Nat → Nat → Nat) (cI cZ : ClassId) (sz : Nat) (h_C a_C_one a_C_other a_C_bucket a_C_nextInBucket a_C_sign a_C_stands a_C_loose : Nat) (C : ClS) (l1 : Int32) (post : ClS → Prop) : Met l yX0_takeOut wsX0_takeOut ({ frames := 0, cells := 0, slots := 0, locals := 0 }) (va_Pc [.ref h_C, .int l1] (fun U => U.heap.size = sz ∧ va_P (dC, dI) vwCl [(h_C, .inr (0, [.int (cl_expected C), .ref a_C_one, .ref a_C_other, .ref a_C_bucket, .ref a_C_nextInBucket, .ref a_C_sign, .ref a_C_stands, .ref a_C_loose, .int (cl_looseTotal C)])), (a_C_bucket, .inl (cI, 256, .inl (cl_bucket C))), (a_C_nextInBucket, .inl (cI, 250, .inl (cl_nextInBucket C))), (a_C_sign, .inl (cI, 250, .inl (cl_sign C)))] U.heap ∧ va_K (dC, dI) vwCl [(cI, .int), (cZ, .boolean)] U ∧ va_D (fun _ => True) [(h_C, .inr (0, [.int (cl_expected C), .ref a_C_one, .ref a_C_other, .ref a_C_bucket, .ref a_C_nextInBucket, .ref a_C_sign, .ref a_C_stands, .ref a_C_loose, .int (cl_looseTotal C)])), (a_C_bucket, .inl (cI, 256, .inl (cl_bucket C))), (a_C_nextInBucket, .inl (cI, 250, .inl (cl_nextInBucket C))), (a_C_sign, .inl (cI, 250, .inl (cl_sign C)))] ∧ wp_X0_takeOut C l1 post)) (va_Qv (fun (u : ClS) => post u) (fun (u : ClS) (t : State) => va_P (dC, dI) vwCl [(h_C, .inr (0, [.int (cl_expected u), .ref a_C_one, .ref a_C_other, .ref a_C_bucket, .ref a_C_nextInBucket, .ref a_C_sign, .ref a_C_stands, .ref a_C_loose, .int (cl_looseTotal u)])), (a_C_bucket, .inl (cI, 256, .inl (cl_bucket u))), (a_C_nextInBucket, .inl (cI, 250, .inl (cl_nextInBucket u))), (a_C_sign, .inl (cI, 250, .inl (cl_sign u)))] t.heap ∧ va_K (dC, dI) vwCl [(cI, .int), (cZ, .boolean)] t ∧ va_D (va_A [(h_C, .inr (0, [.int (cl_expected C), .ref a_C_one, .ref a_C_other, .ref a_C_bucket, .ref a_C_nextInBucket, .ref a_C_sign, .ref a_C_stands, .ref a_C_loose, .int (cl_looseTotal C)])), (a_C_bucket, .inl (cI, 256, .inl (cl_bucket C))), (a_C_nextInBucket, .inl (cI, 250, .inl (cl_nextInBucket C))), (a_C_sign, .inl (cI, 250, .inl (cl_sign C)))] sz) [(h_C, .inr (0, [.int (cl_expected u), .ref a_C_one, .ref a_C_other, .ref a_C_bucket, .ref a_C_nextInBucket, .ref a_C_sign, .ref a_C_stands, .ref a_C_loose, .int (cl_looseTotal u)])), (a_C_bucket, .inl (cI, 256, .inl (cl_bucket u))), (a_C_nextInBucket, .inl (cI, 250, .inl (cl_nextInBucket u))), (a_C_sign, .inl (cI, 250, .inl (cl_sign u)))]) (va_A [(h_C, .inr (0, [.int (cl_expected C), .ref a_C_one, .ref a_C_other, .ref a_C_bucket, .ref a_C_nextInBucket, .ref a_C_sign, .ref a_C_stands, .ref a_C_loose, .int (cl_looseTotal C)])), (a_C_bucket, .inl (cI, 256, .inl (cl_bucket C))), (a_C_nextInBucket, .inl (cI, 250, .inl (cl_nextInBucket C))), (a_C_sign, .inl (cI, 250, .inl (cl_sign C)))] sz)) 0 0 (va_A [(h_C, .inr (0, [.int (cl_expected C), .ref a_C_one, .ref a_C_other, .ref a_C_bucket, .ref a_C_nextInBucket, .ref a_C_sign, .ref a_C_stands, .ref a_C_loose, .int (cl_looseTotal C)])), (a_C_bucket, .inl (cI, 256, .inl (cl_bucket C))), (a_C_nextInBucket, .inl (cI, 250, .inl (cl_nextInBucket C))), (a_C_sign, .inl (cI, 250, .inl (cl_sign C)))] sz) := by
  refine Met.ofW (cc := cX0_takeOut) (maxL := 5) (ret := none) (by decide) rfl ?_
  intro p e s m args below meth c s₁ B hml hv
  obtain ⟨rfl, hsz, hP, hK, hD0, hw⟩ := hv
  have hx := B.exec
  have hb := B.bytes
  have hr := B.returns
  have hts := atoms_spec (ws := wsX0_takeOut) B.pre
  have hown : s.vm.findClass RX0 = some m.cls := findClass_of_methodNamed B.named
  have hlocks := B.notSynchronized
  subst hsz
  have hD := hD0.self (sz := s.heap.size)
  generalize hAe : va_A [(h_C, .inr (0, [.int (cl_expected C), .ref a_C_one, .ref a_C_other, .ref a_C_bucket, .ref a_C_nextInBucket, .ref a_C_sign, .ref a_C_stands, .ref a_C_loose, .int (cl_looseTotal C)])), (a_C_bucket, .inl (cI, 256, .inl (cl_bucket C))), (a_C_nextInBucket, .inl (cI, 250, .inl (cl_nextInBucket C))), (a_C_sign, .inl (cI, 250, .inl (cl_sign C)))] s.heap.size = A at hD ⊢
  have hA : ∀ q : Nat, s.heap.size ≤ q → A q := fun q h => by rw [← hAe]; exact Or.inr h
  have hS : va_S A s.heap s.heap [] := va_S.rf
  have hP : va_P (dC, dI) vwCl [(h_C, .inr (0, [.int (cl_expected C), .ref a_C_one, .ref a_C_other, .ref a_C_bucket, .ref a_C_nextInBucket, .ref a_C_sign, .ref a_C_stands, .ref a_C_loose, .int (cl_looseTotal C)])), (a_C_bucket, .inl (cI, 256, .inl (cl_bucket C))), (a_C_nextInBucket, .inl (cI, 250, .inl (cl_nextInBucket C))), (a_C_sign, .inl (cI, 250, .inl (cl_sign C)))] s.heap := hP
  have hl := lv_entry ([.ref h_C, .int l1]) (n := 5) (Nat.le_of_ble_eq_true rfl)
  rw [lg_entry_eq]
  generalize (lg_sl ([.ref h_C, .int l1]) ++ List.replicate (5 - (lg_sl ([.ref h_C, .int l1])).length) Slot.unset).toArray = ls at hl ⊢
  have hl : lv_has ls 5 [(0, .ref h_C), (1, .int l1)] := hl
  have in_X0 : ∀ w ∈ wsX00, w ∈ wsX0_takeOut := by decide +kernel
  have lk_24 := hts (.fieldLink RX0 24 "SameTerms$Closure" "sign" "[I") (by decide +kernel)
  have lk_18 := hts (.fieldLink RX0 18 "SameTerms$Closure" "bucket" "[I") (by decide +kernel)
  have lk_21 := hts (.fieldLink RX0 21 "SameTerms$Closure" "nextInBucket" "[I") (by decide +kernel)
  unfold wp_X0_takeOut at hw
  refine w_goal (fun G gI gE => gI _ _ _ ?_)
  obtain ⟨H, hH⟩ : ∃ H : Heap, H = s.heap := ⟨_, rfl⟩
  obtain ⟨locs, hlocs⟩ : ∃ z : List Loc, z = [] := ⟨_, rfl⟩
  rw [← hH] at hP
  have hS : va_S A s.heap H locs := by rw [hH, hlocs]; exact hS
  refine w_start hH hlocs ?_
  refine lv_aload_n hx hb dX0_takeOut_0 rfl (lv_at hl 0 rfl) ?_
  refine va_get (D := (dC, dI)) (ci := 0) (v := .ref a_C_sign) (C := RX0) (T := TX0) (N := 9) hx hb hts in_X0 hown hK hP 0 rfl rfl 5 (by decide) lk_24 (fun _ h9 => h9) rfl dX0_takeOut_1 ?_
  refine lv_iload_n hx hb dX0_takeOut_4 rfl (lv_at hl 1 rfl) ?_
  obtain ⟨hi_1, hw⟩ := hw
  refine va_iald hx hb hK hP 3 0 rfl rfl hi_1 dX0_takeOut_5 ?_
  refine lv_sipush (v := (256 : Int32)) hx hb dX0_takeOut_6 (by decide) ?_
  refine lv_irem hx hb dX0_takeOut_9 (by decide) ?_
  refine lv_topi (fun x_2 ex_2 => ?_)
  have hw := hw x_2 ex_2
  refine lv_istore_n (lv' := [(2, .int x_2), (0, .ref h_C), (1, .int l1)]) hx hb dX0_takeOut_10 rfl hl (by decide) rfl (fun ls hl => ?_)
  refine lv_aload_n hx hb dX0_takeOut_11 rfl (lv_at hl 1 rfl) ?_
  refine va_get (D := (dC, dI)) (ci := 0) (v := .ref a_C_bucket) (C := RX0) (T := TX0) (N := 9) hx hb hts in_X0 hown hK hP 0 rfl rfl 3 (by decide) lk_18 (fun _ h9 => h9) rfl dX0_takeOut_12 ?_
  refine lv_iload_n hx hb dX0_takeOut_15 rfl (lv_at hl 0 rfl) ?_
  obtain ⟨hi_3, hw⟩ := hw
  refine va_iald hx hb hK hP 1 0 rfl rfl hi_3 dX0_takeOut_16 ?_
  refine lv_iload_n hx hb dX0_takeOut_17 rfl (lv_at hl 2 rfl) ?_
  refine lv_icmp_ne (tgt := 34) hx hb dX0_takeOut_18 (by decide) (fun c_4 => ?_) (fun c_4 => ?_)
  · have hw := hw.2 c_4
    refine lv_aload_n hx hb dX0_takeOut_34 rfl (lv_at hl 1 rfl) ?_
    refine va_get (D := (dC, dI)) (ci := 0) (v := .ref a_C_bucket) (C := RX0) (T := TX0) (N := 9) hx hb hts in_X0 hown hK hP 0 rfl rfl 3 (by decide) lk_18 (fun _ h9 => h9) rfl dX0_takeOut_35 ?_
    refine lv_iload_n hx hb dX0_takeOut_38 rfl (lv_at hl 0 rfl) ?_
    refine va_iald hx hb hK hP 1 0 rfl rfl hi_3 dX0_takeOut_39 ?_
    refine lv_topi (fun x_5 ex_5 => ?_)
    have hw := hw x_5 ex_5
    refine lv_istore_n (lv' := [(3, .int x_5), (2, .int x_2), (0, .ref h_C), (1, .int l1)]) hx hb dX0_takeOut_40 rfl hl (by decide) rfl (fun ls hl => ?_)
    refine lv_iconst (v := (0 : Int32)) hx hb dX0_takeOut_41 (by decide) ?_
    refine lv_istore (lv' := [(4, .int (0 : Int32)), (3, .int x_5), (2, .int x_2), (0, .ref h_C), (1, .int l1)]) hx hb dX0_takeOut_42 hl (by decide) rfl (fun ls hl => ?_)
    obtain ⟨n_44, hw⟩ := hw
    have hk_44_93 : ∀ (l3_h44 : Int32) (l4_h44 : Int32) (C_h44 : ClS) (H : Heap) (locs : List Loc) (ls : Array Slot), va_P (dC, dI) vwCl [(h_C, .inr (0, [.int (cl_expected C_h44), .ref a_C_one, .ref a_C_other, .ref a_C_bucket, .ref a_C_nextInBucket, .ref a_C_sign, .ref a_C_stands, .ref a_C_loose, .int (cl_looseTotal C_h44)])), (a_C_bucket, .inl (cI, 256, .inl (cl_bucket C_h44))), (a_C_nextInBucket, .inl (cI, 250, .inl (cl_nextInBucket C_h44))), (a_C_sign, .inl (cI, 250, .inl (cl_sign C_h44)))] H → va_D A [(h_C, .inr (0, [.int (cl_expected C_h44), .ref a_C_one, .ref a_C_other, .ref a_C_bucket, .ref a_C_nextInBucket, .ref a_C_sign, .ref a_C_stands, .ref a_C_loose, .int (cl_looseTotal C_h44)])), (a_C_bucket, .inl (cI, 256, .inl (cl_bucket C_h44))), (a_C_nextInBucket, .inl (cI, 250, .inl (cl_nextInBucket C_h44))), (a_C_sign, .inl (cI, 250, .inl (cl_sign C_h44)))] → va_S A s.heap H locs → lv_has ls 5 [(0, .ref h_C), (1, .int l1), (2, .int x_2), (3, .int l3_h44), (4, .int l4_h44)] → (K_X0_takeOut_44_93 post) l3_h44 l4_h44 C_h44 → G H locs (F0 m 93 ls []) := by
      intro l3_h44 l4_h44 C_h44 H locs ls hP hD hS hl hw
      unfold K_X0_takeOut_44_93 at hw
      refine gI _ _ _ ?_
      exact W.vret hx hb hr (fun t ht hW => ⟨⟨C_h44, rfl, hw, by rw [ht]; exact hP, va_K.moved hW.alike hK, hD⟩, hS.F ht⟩) hS.2.2 dX0_takeOut_93
    have hL_44 : ∀ (n : Nat) (l3_h44 : Int32) (l4_h44 : Int32) (C_h44 : ClS) (H : Heap) (locs : List Loc) (ls : Array Slot), va_P (dC, dI) vwCl [(h_C, .inr (0, [.int (cl_expected C_h44), .ref a_C_one, .ref a_C_other, .ref a_C_bucket, .ref a_C_nextInBucket, .ref a_C_sign, .ref a_C_stands, .ref a_C_loose, .int (cl_looseTotal C_h44)])), (a_C_bucket, .inl (cI, 256, .inl (cl_bucket C_h44))), (a_C_nextInBucket, .inl (cI, 250, .inl (cl_nextInBucket C_h44))), (a_C_sign, .inl (cI, 250, .inl (cl_sign C_h44)))] H → va_D A [(h_C, .inr (0, [.int (cl_expected C_h44), .ref a_C_one, .ref a_C_other, .ref a_C_bucket, .ref a_C_nextInBucket, .ref a_C_sign, .ref a_C_stands, .ref a_C_loose, .int (cl_looseTotal C_h44)])), (a_C_bucket, .inl (cI, 256, .inl (cl_bucket C_h44))), (a_C_nextInBucket, .inl (cI, 250, .inl (cl_nextInBucket C_h44))), (a_C_sign, .inl (cI, 250, .inl (cl_sign C_h44)))] → va_S A s.heap H locs → lv_has ls 5 [(0, .ref h_C), (1, .int l1), (2, .int x_2), (3, .int l3_h44), (4, .int l4_h44)] → wl3 (B_X0_takeOut_44 l1 post (K_X0_takeOut_44_93 post)) n l3_h44 l4_h44 C_h44 → G H locs (F0 m 44 ls []) := by
      intro n
      induction n with
      | zero =>
        intro l3_h44 l4_h44 C_h44 H locs ls hP hD hS hl hw
        exact hw.elim
      | succ n_44 ih_44 =>
        intro l3_h44 l4_h44 C_h44 H locs ls hP hD hS hl hw
        have hw : B_X0_takeOut_44 l1 post (K_X0_takeOut_44_93 post) (wl3 (B_X0_takeOut_44 l1 post (K_X0_takeOut_44_93 post)) n_44) l3_h44 l4_h44 C_h44 := hw
        unfold B_X0_takeOut_44 at hw
        refine gI _ _ _ ?_
        refine lv_iload hx hb dX0_takeOut_44 (lv_at hl 4 rfl) ?_
        refine lv_sipush (v := (250 : Int32)) hx hb dX0_takeOut_46 (by decide) ?_
        refine lv_icmp_ge (tgt := 93) hx hb dX0_takeOut_49 (by decide) (fun c_6 => ?_) (fun c_6 => ?_)
        · have hw := hw.1 c_6
          exact gE _ _ _ (hk_44_93 l3_h44 l4_h44 C_h44 H locs ls hP hD hS (lv_sub hl [0, 1, 2, 3, 4] rfl) hw)
        · have hw := hw.2 c_6
          refine lv_iload_n hx hb dX0_takeOut_52 rfl (lv_at hl 3 rfl) ?_
          refine lv_iconst (v := (-1 : Int32)) hx hb dX0_takeOut_53 (by decide) ?_
          refine lv_icmp_eq (tgt := 93) hx hb dX0_takeOut_54 (by decide) (fun c_7 => ?_) (fun c_7 => ?_)
          · have hw := hw.1 c_7
            exact gE _ _ _ (hk_44_93 l3_h44 l4_h44 C_h44 H locs ls hP hD hS (lv_sub hl [0, 1, 2, 3, 4] rfl) hw)
          · have hw := hw.2 c_7
            refine lv_aload_n hx hb dX0_takeOut_57 rfl (lv_at hl 0 rfl) ?_
            refine va_get (D := (dC, dI)) (ci := 0) (v := .ref a_C_nextInBucket) (C := RX0) (T := TX0) (N := 9) hx hb hts in_X0 hown hK hP 0 rfl rfl 4 (by decide) lk_21 (fun _ h9 => h9) rfl dX0_takeOut_58 ?_
            refine lv_iload_n hx hb dX0_takeOut_61 rfl (lv_at hl 3 rfl) ?_
            obtain ⟨hi_8, hw⟩ := hw
            refine va_iald hx hb hK hP 2 0 rfl rfl hi_8 dX0_takeOut_62 ?_
            refine lv_iload_n hx hb dX0_takeOut_63 rfl (lv_at hl 1 rfl) ?_
            refine lv_icmp_ne (tgt := 80) hx hb dX0_takeOut_64 (by decide) (fun c_9 => ?_) (fun c_9 => ?_)
            · have hw := hw.2 c_9
              refine lv_aload_n hx hb dX0_takeOut_80 rfl (lv_at hl 0 rfl) ?_
              refine va_get (D := (dC, dI)) (ci := 0) (v := .ref a_C_nextInBucket) (C := RX0) (T := TX0) (N := 9) hx hb hts in_X0 hown hK hP 0 rfl rfl 4 (by decide) lk_21 (fun _ h9 => h9) rfl dX0_takeOut_81 ?_
              refine lv_iload_n hx hb dX0_takeOut_84 rfl (lv_at hl 3 rfl) ?_
              refine va_iald hx hb hK hP 2 0 rfl rfl hi_8 dX0_takeOut_85 ?_
              refine lv_topi (fun x_10 ex_10 => ?_)
              have hw := hw x_10 ex_10
              refine lv_istore_n (lv' := [(3, .int x_10), (0, .ref h_C), (1, .int l1), (2, .int x_2), (4, .int l4_h44)]) hx hb dX0_takeOut_86 rfl hl (by decide) rfl (fun ls hl => ?_)
              refine lv_iinc (v := (l4_h44 + 1)) (lv' := [(4, .int (l4_h44 + 1)), (3, .int x_10), (0, .ref h_C), (1, .int l1), (2, .int x_2)]) hx hb dX0_takeOut_87 hl (k := 4) rfl rfl (by decide) rfl (fun ls hl => ?_)
              refine lv_goto (tgt := 44) hx hb dX0_takeOut_90 (by decide) ?_
              exact gE _ _ _ (ih_44 x_10 (l4_h44 + 1) C_h44 H locs ls hP hD hS (lv_sub hl [2, 3, 4, 1, 0] rfl) hw)
            · have hw := hw.1 c_9
              refine lv_aload_n hx hb dX0_takeOut_67 rfl (lv_at hl 0 rfl) ?_
              refine va_get (D := (dC, dI)) (ci := 0) (v := .ref a_C_nextInBucket) (C := RX0) (T := TX0) (N := 9) hx hb hts in_X0 hown hK hP 0 rfl rfl 4 (by decide) lk_21 (fun _ h9 => h9) rfl dX0_takeOut_68 ?_
              refine lv_iload_n hx hb dX0_takeOut_71 rfl (lv_at hl 3 rfl) ?_
              refine lv_aload_n hx hb dX0_takeOut_72 rfl (lv_at hl 0 rfl) ?_
              refine va_get (D := (dC, dI)) (ci := 0) (v := .ref a_C_nextInBucket) (C := RX0) (T := TX0) (N := 9) hx hb hts in_X0 hown hK hP 0 rfl rfl 4 (by decide) lk_21 (fun _ h9 => h9) rfl dX0_takeOut_73 ?_
              refine lv_iload_n hx hb dX0_takeOut_76 rfl (lv_at hl 1 rfl) ?_
              obtain ⟨hi_11, hw⟩ := hw
              refine va_iald hx hb hK hP 2 0 rfl rfl hi_11 dX0_takeOut_77 ?_
              refine va_iast hx hb hK hP hD hS 2 0 rfl rfl hi_8 dX0_takeOut_78 (fun H locs hP hD hS => ?_)
              have hP : va_P (dC, dI) vwCl [(h_C, .inr (0, [.int (cl_expected C_h44), .ref a_C_one, .ref a_C_other, .ref a_C_bucket, .ref a_C_nextInBucket, .ref a_C_sign, .ref a_C_stands, .ref a_C_loose, .int (cl_looseTotal C_h44)])), (a_C_bucket, .inl (cI, 256, .inl (cl_bucket C_h44))), (a_C_nextInBucket, .inl (cI, 250, .inl (upd (cl_nextInBucket C_h44) l3_h44.toNatClampNeg ((cl_nextInBucket C_h44) l1.toNatClampNeg)))), (a_C_sign, .inl (cI, 250, .inl (cl_sign C_h44)))] H := hP
              have hD : va_D A [(h_C, .inr (0, [.int (cl_expected C_h44), .ref a_C_one, .ref a_C_other, .ref a_C_bucket, .ref a_C_nextInBucket, .ref a_C_sign, .ref a_C_stands, .ref a_C_loose, .int (cl_looseTotal C_h44)])), (a_C_bucket, .inl (cI, 256, .inl (cl_bucket C_h44))), (a_C_nextInBucket, .inl (cI, 250, .inl (upd (cl_nextInBucket C_h44) l3_h44.toNatClampNeg ((cl_nextInBucket C_h44) l1.toNatClampNeg)))), (a_C_sign, .inl (cI, 250, .inl (cl_sign C_h44)))] := hD
              exact W.vret hx hb hr (fun t ht hW => ⟨⟨(cl_s_nextInBucket C_h44 (upd (cl_nextInBucket C_h44) l3_h44.toNatClampNeg ((cl_nextInBucket C_h44) l1.toNatClampNeg))), rfl, hw, by rw [ht]; exact hP, va_K.moved hW.alike hK, hD⟩, hS.F ht⟩) hS.2.2 dX0_takeOut_79
    exact gE _ _ _ (hL_44 n_44 x_5 (0 : Int32) C H locs ls hP hD hS (lv_sub hl [3, 4, 2, 1, 0] rfl) hw)
  · have hw := hw.1 c_4
    refine lv_aload_n hx hb dX0_takeOut_21 rfl (lv_at hl 1 rfl) ?_
    refine va_get (D := (dC, dI)) (ci := 0) (v := .ref a_C_bucket) (C := RX0) (T := TX0) (N := 9) hx hb hts in_X0 hown hK hP 0 rfl rfl 3 (by decide) lk_18 (fun _ h9 => h9) rfl dX0_takeOut_22 ?_
    refine lv_iload_n hx hb dX0_takeOut_25 rfl (lv_at hl 0 rfl) ?_
    refine lv_aload_n hx hb dX0_takeOut_26 rfl (lv_at hl 1 rfl) ?_
    refine va_get (D := (dC, dI)) (ci := 0) (v := .ref a_C_nextInBucket) (C := RX0) (T := TX0) (N := 9) hx hb hts in_X0 hown hK hP 0 rfl rfl 4 (by decide) lk_21 (fun _ h9 => h9) rfl dX0_takeOut_27 ?_
    refine lv_iload_n hx hb dX0_takeOut_30 rfl (lv_at hl 2 rfl) ?_
    refine va_iald hx hb hK hP 2 0 rfl rfl hi_1 dX0_takeOut_31 ?_
    refine va_iast hx hb hK hP hD hS 1 0 rfl rfl hi_3 dX0_takeOut_32 (fun H locs hP hD hS => ?_)
    have hP : va_P (dC, dI) vwCl [(h_C, .inr (0, [.int (cl_expected C), .ref a_C_one, .ref a_C_other, .ref a_C_bucket, .ref a_C_nextInBucket, .ref a_C_sign, .ref a_C_stands, .ref a_C_loose, .int (cl_looseTotal C)])), (a_C_bucket, .inl (cI, 256, .inl (upd (cl_bucket C) x_2.toNatClampNeg ((cl_nextInBucket C) l1.toNatClampNeg)))), (a_C_nextInBucket, .inl (cI, 250, .inl (cl_nextInBucket C))), (a_C_sign, .inl (cI, 250, .inl (cl_sign C)))] H := hP
    have hD : va_D A [(h_C, .inr (0, [.int (cl_expected C), .ref a_C_one, .ref a_C_other, .ref a_C_bucket, .ref a_C_nextInBucket, .ref a_C_sign, .ref a_C_stands, .ref a_C_loose, .int (cl_looseTotal C)])), (a_C_bucket, .inl (cI, 256, .inl (upd (cl_bucket C) x_2.toNatClampNeg ((cl_nextInBucket C) l1.toNatClampNeg)))), (a_C_nextInBucket, .inl (cI, 250, .inl (cl_nextInBucket C))), (a_C_sign, .inl (cI, 250, .inl (cl_sign C)))] := hD
    exact W.vret hx hb hr (fun t ht hW => ⟨⟨(cl_s_bucket C (upd (cl_bucket C) x_2.toNatClampNeg ((cl_nextInBucket C) l1.toNatClampNeg))), rfl, hw, by rw [ht]; exact hP, va_K.moved hW.alike hK, hD⟩, hS.F ht⟩) hS.2.2 dX0_takeOut_33

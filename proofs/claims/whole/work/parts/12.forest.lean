def K_X1_plant_2_49 (l1 : Int32) (post : FoS → Prop) (l2 : Int32) (F : FoS) : Prop := (post (fo_s_latest (fo_s_trees F l1) (0 : Int32)))
def B_X1_plant_2 (l1 : Int32) (ke_2_49 : Int32 → FoS → Prop) (kb_2 : Int32 → FoS → Prop) (l2 : Int32) (F : FoS) : Prop := ((l1 ≤ l2 → (ke_2_49 l2 F)) ∧ (¬ l1 ≤ l2 → (vp_in l2 250 ∧ (kb_2 (l2 + 1) (fo_s_joined (fo_s_above (fo_s_nextMember (fo_s_lowest (fo_s_members F (upd (fo_members F) l2.toNatClampNeg (1 : Int32))) (upd (fo_lowest F) l2.toNatClampNeg l2)) (upd (fo_nextMember F) l2.toNatClampNeg l2)) (upd (fo_above F) l2.toNatClampNeg l2)) (upd (fo_joined F) l2.toNatClampNeg (1000000 : Int32)))))))
def wp_X1_plant (F : FoS) (l1 : Int32) (post : FoS → Prop) : Prop := (∃ n : Nat, wl2 (B_X1_plant_2 l1 (K_X1_plant_2_49 l1 post)) n (0 : Int32) F)
set_option maxHeartbeats 4000000 in
set_option maxRecDepth 100000 in
theorem c_X1_plant (l : Launch) (dC : Nat → ClassId) (dI : Nat → Nat → Nat) (cI cZ : ClassId) (sz : Nat) (h_F a_F_members a_F_lowest a_F_nextMember a_F_above a_F_joined : Nat) (F : FoS) (l1 : Int32) (post : FoS → Prop) : Met l yX1_plant wsX1_plant ({ frames := 0, cells := 0, slots := 0, locals := 0 }) (va_Pc [.ref h_F, .int l1] (fun U => U.heap.size = sz ∧ va_P (dC, dI) vwCl [(h_F, .inr (1, [.ref a_F_members, .ref a_F_lowest, .ref a_F_nextMember, .int (fo_trees F), .int (fo_latest F), .ref a_F_above, .ref a_F_joined])), (a_F_members, .inl (cI, 250, .inl (fo_members F))), (a_F_lowest, .inl (cI, 250, .inl (fo_lowest F))), (a_F_nextMember, .inl (cI, 250, .inl (fo_nextMember F))), (a_F_above, .inl (cI, 250, .inl (fo_above F))), (a_F_joined, .inl (cI, 250, .inl (fo_joined F)))] U.heap ∧ va_K (dC, dI) vwCl [(cI, .int), (cZ, .boolean)] U ∧ va_D (fun _ => True) [(h_F, .inr (1, [.ref a_F_members, .ref a_F_lowest, .ref a_F_nextMember, .int (fo_trees F), .int (fo_latest F), .ref a_F_above, .ref a_F_joined])), (a_F_members, .inl (cI, 250, .inl (fo_members F))), (a_F_lowest, .inl (cI, 250, .inl (fo_lowest F))), (a_F_nextMember, .inl (cI, 250, .inl (fo_nextMember F))), (a_F_above, .inl (cI, 250, .inl (fo_above F))), (a_F_joined, .inl (cI, 250, .inl (fo_joined F)))] ∧ wp_X1_plant F l1 post)) (va_Qv (fun (u : FoS) => post u) (fun (u : FoS) (t : State) => va_P (dC, dI) vwCl [(h_F, .inr (1, [.ref a_F_members, .ref a_F_lowest, .ref a_F_nextMember, .int (fo_trees u), .int (fo_latest u), .ref a_F_above, .ref a_F_joined])), (a_F_members, .inl (cI, 250, .inl (fo_members u))), (a_F_lowest, .inl (cI, 250, .inl (fo_lowest u))), (a_F_nextMember, .inl (cI, 250, .inl (fo_nextMember u))), (a_F_above, .inl (cI, 250, .inl (fo_above u))), (a_F_joined, .inl (cI, 250, .inl (fo_joined u)))] t.heap ∧ va_K (dC, dI) vwCl [(cI, .int), (cZ, .boolean)] t ∧ va_D (va_A [(h_F, .inr (1, [.ref a_F_members, .ref a_F_lowest, .ref a_F_nextMember, .int (fo_trees F), .int (fo_latest F), .ref a_F_above, .ref a_F_joined])), (a_F_members, .inl (cI, 250, .inl (fo_members F))), (a_F_lowest, .inl (cI, 250, .inl (fo_lowest F))), (a_F_nextMember, .inl (cI, 250, .inl (fo_nextMember F))), (a_F_above, .inl (cI, 250, .inl (fo_above F))), (a_F_joined, .inl (cI, 250, .inl (fo_joined F)))] sz) [(h_F, .inr (1, [.ref a_F_members, .ref a_F_lowest, .ref a_F_nextMember, .int (fo_trees u), .int (fo_latest u), .ref a_F_above, .ref a_F_joined])), (a_F_members, .inl (cI, 250, .inl (fo_members u))), (a_F_lowest, .inl (cI, 250, .inl (fo_lowest u))), (a_F_nextMember, .inl (cI, 250, .inl (fo_nextMember u))), (a_F_above, .inl (cI, 250, .inl (fo_above u))), (a_F_joined, .inl (cI, 250, .inl (fo_joined u)))]) (va_A [(h_F, .inr (1, [.ref a_F_members, .ref a_F_lowest, .ref a_F_nextMember, .int (fo_trees F), .int (fo_latest F), .ref a_F_above, .ref a_F_joined])), (a_F_members, .inl (cI, 250, .inl (fo_members F))), (a_F_lowest, .inl (cI, 250, .inl (fo_lowest F))), (a_F_nextMember, .inl (cI, 250, .inl (fo_nextMember F))), (a_F_above, .inl (cI, 250, .inl (fo_above F))), (a_F_joined, .inl (cI, 250, .inl (fo_joined F)))] sz)) 0 0 (va_A [(h_F, .inr (1, [.ref a_F_members, .ref a_F_lowest, .ref a_F_nextMember, .int (fo_trees F), .int (fo_latest F), .ref a_F_above, .ref a_F_joined])), (a_F_members, .inl (cI, 250, .inl (fo_members F))), (a_F_lowest, .inl (cI, 250, .inl (fo_lowest F))), (a_F_nextMember, .inl (cI, 250, .inl (fo_nextMember F))), (a_F_above, .inl (cI, 250, .inl (fo_above F))), (a_F_joined, .inl (cI, 250, .inl (fo_joined F)))] sz) := by
  refine Met.ofW (cc := cX1_plant) (maxL := 3) (ret := none) (by decide) rfl ?_
  intro p e s m args below meth c s₁ B hml hv
  obtain ⟨rfl, hsz, hP, hK, hD0, hw⟩ := hv
  have hx := B.exec
  have hb := B.bytes
  have hr := B.returns
  have hts := atoms_spec (ws := wsX1_plant) B.pre
  have hown : s.vm.findClass RX1 = some m.cls := findClass_of_methodNamed B.named
  have hlocks := B.notSynchronized
  subst hsz
  have hD := hD0.self (sz := s.heap.size)
  generalize hAe : va_A [(h_F, .inr (1, [.ref a_F_members, .ref a_F_lowest, .ref a_F_nextMember, .int (fo_trees F), .int (fo_latest F), .ref a_F_above, .ref a_F_joined])), (a_F_members, .inl (cI, 250, .inl (fo_members F))), (a_F_lowest, .inl (cI, 250, .inl (fo_lowest F))), (a_F_nextMember, .inl (cI, 250, .inl (fo_nextMember F))), (a_F_above, .inl (cI, 250, .inl (fo_above F))), (a_F_joined, .inl (cI, 250, .inl (fo_joined F)))] s.heap.size = A at hD ⊢
  have hA : ∀ q : Nat, s.heap.size ≤ q → A q := fun q h => by rw [← hAe]; exact Or.inr h
  have hS : va_S A s.heap s.heap [] := va_S.rf
  have hP : va_P (dC, dI) vwCl [(h_F, .inr (1, [.ref a_F_members, .ref a_F_lowest, .ref a_F_nextMember, .int (fo_trees F), .int (fo_latest F), .ref a_F_above, .ref a_F_joined])), (a_F_members, .inl (cI, 250, .inl (fo_members F))), (a_F_lowest, .inl (cI, 250, .inl (fo_lowest F))), (a_F_nextMember, .inl (cI, 250, .inl (fo_nextMember F))), (a_F_above, .inl (cI, 250, .inl (fo_above F))), (a_F_joined, .inl (cI, 250, .inl (fo_joined F)))] s.heap := hP
  have hl := lv_entry ([.ref h_F, .int l1]) (n := 3) (Nat.le_of_ble_eq_true rfl)
  rw [lg_entry_eq]
  generalize (lg_sl ([.ref h_F, .int l1]) ++ List.replicate (3 - (lg_sl ([.ref h_F, .int l1])).length) Slot.unset).toArray = ls at hl ⊢
  have hl : lv_has ls 3 [(0, .ref h_F), (1, .int l1)] := hl
  have in_X1 : ∀ w ∈ wsX10, w ∈ wsX1_plant := by decide +kernel
  have lk_9 := hts (.fieldLink RX1 9 "SameTerms$Forest" "members" "[I") (by decide +kernel)
  have lk_15 := hts (.fieldLink RX1 15 "SameTerms$Forest" "lowest" "[I") (by decide +kernel)
  have lk_18 := hts (.fieldLink RX1 18 "SameTerms$Forest" "nextMember" "[I") (by decide +kernel)
  have lk_21 := hts (.fieldLink RX1 21 "SameTerms$Forest" "above" "[I") (by decide +kernel)
  have lk_24 := hts (.fieldLink RX1 24 "SameTerms$Forest" "joined" "[I") (by decide +kernel)
  have lk_27 := hts (.constant RX1 27 (1000000)) (by decide +kernel)
  have lk_28 := hts (.fieldLink RX1 28 "SameTerms$Forest" "trees" "I") (by decide +kernel)
  have lk_32 := hts (.fieldLink RX1 32 "SameTerms$Forest" "latest" "I") (by decide +kernel)
  unfold wp_X1_plant at hw
  refine w_goal (fun G gI gE => gI _ _ _ ?_)
  obtain ⟨H, hH⟩ : ∃ H : Heap, H = s.heap := ⟨_, rfl⟩
  obtain ⟨locs, hlocs⟩ : ∃ z : List Loc, z = [] := ⟨_, rfl⟩
  rw [← hH] at hP
  have hS : va_S A s.heap H locs := by rw [hH, hlocs]; exact hS
  refine w_start hH hlocs ?_
  refine lv_iconst (v := (0 : Int32)) hx hb dX1_plant_0 (by decide) ?_
  refine lv_istore_n (lv' := [(2, .int (0 : Int32)), (0, .ref h_F), (1, .int l1)]) hx hb dX1_plant_1 rfl hl (by decide) rfl (fun ls hl => ?_)
  obtain ⟨n_2, hw⟩ := hw
  have hk_2_49 : ∀ (l2_h2 : Int32) (F_h2 : FoS) (H : Heap) (locs : List Loc) (ls : Array Slot), va_P (dC, dI) vwCl [(h_F, .inr (1, [.ref a_F_members, .ref a_F_lowest, .ref a_F_nextMember, .int (fo_trees F_h2), .int (fo_latest F_h2), .ref a_F_above, .ref a_F_joined])), (a_F_members, .inl (cI, 250, .inl (fo_members F_h2))), (a_F_lowest, .inl (cI, 250, .inl (fo_lowest F_h2))), (a_F_nextMember, .inl (cI, 250, .inl (fo_nextMember F_h2))), (a_F_above, .inl (cI, 250, .inl (fo_above F_h2))), (a_F_joined, .inl (cI, 250, .inl (fo_joined F_h2)))] H → va_D A [(h_F, .inr (1, [.ref a_F_members, .ref a_F_lowest, .ref a_F_nextMember, .int (fo_trees F_h2), .int (fo_latest F_h2), .ref a_F_above, .ref a_F_joined])), (a_F_members, .inl (cI, 250, .inl (fo_members F_h2))), (a_F_lowest, .inl (cI, 250, .inl (fo_lowest F_h2))), (a_F_nextMember, .inl (cI, 250, .inl (fo_nextMember F_h2))), (a_F_above, .inl (cI, 250, .inl (fo_above F_h2))), (a_F_joined, .inl (cI, 250, .inl (fo_joined F_h2)))] → va_S A s.heap H locs → lv_has ls 3 [(0, .ref h_F), (1, .int l1), (2, .int l2_h2)] → (K_X1_plant_2_49 l1 post) l2_h2 F_h2 → G H locs (F0 m 49 ls []) := by
    intro l2_h2 F_h2 H locs ls hP hD hS hl hw
    unfold K_X1_plant_2_49 at hw
    refine gI _ _ _ ?_
    refine lv_aload_n hx hb dX1_plant_49 rfl (lv_at hl 0 rfl) ?_
    refine lv_iload_n hx hb dX1_plant_50 rfl (lv_at hl 1 rfl) ?_
    refine va_put (D := (dC, dI)) (ci := 1) (v := .int l1) (ty := .int) (C := RX1) (T := TX1) (N := 7) hx hb hts in_X1 tyX1 tyX1_ok nmX1 hown hK hP hD hS 0 rfl rfl 3 (by decide) lk_28 (fun _ h9 => h9) rfl (by decide +kernel) rfl rfl (Nat.le_of_ble_eq_true rfl) dX1_plant_51 (fun H locs hP hD hS => ?_)
    have hP : va_P (dC, dI) vwCl [(h_F, .inr (1, [.ref a_F_members, .ref a_F_lowest, .ref a_F_nextMember, .int l1, .int (fo_latest F_h2), .ref a_F_above, .ref a_F_joined])), (a_F_members, .inl (cI, 250, .inl (fo_members F_h2))), (a_F_lowest, .inl (cI, 250, .inl (fo_lowest F_h2))), (a_F_nextMember, .inl (cI, 250, .inl (fo_nextMember F_h2))), (a_F_above, .inl (cI, 250, .inl (fo_above F_h2))), (a_F_joined, .inl (cI, 250, .inl (fo_joined F_h2)))] H := hP
    have hD : va_D A [(h_F, .inr (1, [.ref a_F_members, .ref a_F_lowest, .ref a_F_nextMember, .int l1, .int (fo_latest F_h2), .ref a_F_above, .ref a_F_joined])), (a_F_members, .inl (cI, 250, .inl (fo_members F_h2))), (a_F_lowest, .inl (cI, 250, .inl (fo_lowest F_h2))), (a_F_nextMember, .inl (cI, 250, .inl (fo_nextMember F_h2))), (a_F_above, .inl (cI, 250, .inl (fo_above F_h2))), (a_F_joined, .inl (cI, 250, .inl (fo_joined F_h2)))] := hD
    refine lv_aload_n hx hb dX1_plant_54 rfl (lv_at hl 0 rfl) ?_
    refine lv_iconst (v := (0 : Int32)) hx hb dX1_plant_55 (by decide) ?_
    refine va_put (D := (dC, dI)) (ci := 1) (v := .int (0 : Int32)) (ty := .int) (C := RX1) (T := TX1) (N := 7) hx hb hts in_X1 tyX1 tyX1_ok nmX1 hown hK hP hD hS 0 rfl rfl 4 (by decide) lk_32 (fun _ h9 => h9) rfl (by decide +kernel) rfl rfl (Nat.le_of_ble_eq_true rfl) dX1_plant_56 (fun H locs hP hD hS => ?_)
    have hP : va_P (dC, dI) vwCl [(h_F, .inr (1, [.ref a_F_members, .ref a_F_lowest, .ref a_F_nextMember, .int l1, .int (0 : Int32), .ref a_F_above, .ref a_F_joined])), (a_F_members, .inl (cI, 250, .inl (fo_members F_h2))), (a_F_lowest, .inl (cI, 250, .inl (fo_lowest F_h2))), (a_F_nextMember, .inl (cI, 250, .inl (fo_nextMember F_h2))), (a_F_above, .inl (cI, 250, .inl (fo_above F_h2))), (a_F_joined, .inl (cI, 250, .inl (fo_joined F_h2)))] H := hP
    have hD : va_D A [(h_F, .inr (1, [.ref a_F_members, .ref a_F_lowest, .ref a_F_nextMember, .int l1, .int (0 : Int32), .ref a_F_above, .ref a_F_joined])), (a_F_members, .inl (cI, 250, .inl (fo_members F_h2))), (a_F_lowest, .inl (cI, 250, .inl (fo_lowest F_h2))), (a_F_nextMember, .inl (cI, 250, .inl (fo_nextMember F_h2))), (a_F_above, .inl (cI, 250, .inl (fo_above F_h2))), (a_F_joined, .inl (cI, 250, .inl (fo_joined F_h2)))] := hD
    exact W.vret hx hb hr (fun t ht hW => ⟨⟨(fo_s_latest (fo_s_trees F_h2 l1) (0 : Int32)), rfl, hw, by rw [ht]; exact hP, va_K.moved hW.alike hK, hD⟩, hS.F ht⟩) hS.2.2 dX1_plant_59
  have hL_2 : ∀ (n : Nat) (l2_h2 : Int32) (F_h2 : FoS) (H : Heap) (locs : List Loc) (ls : Array Slot), va_P (dC, dI) vwCl [(h_F, .inr (1, [.ref a_F_members, .ref a_F_lowest, .ref a_F_nextMember, .int (fo_trees F_h2), .int (fo_latest F_h2), .ref a_F_above, .ref a_F_joined])), (a_F_members, .inl (cI, 250, .inl (fo_members F_h2))), (a_F_lowest, .inl (cI, 250, .inl (fo_lowest F_h2))), (a_F_nextMember, .inl (cI, 250, .inl (fo_nextMember F_h2))), (a_F_above, .inl (cI, 250, .inl (fo_above F_h2))), (a_F_joined, .inl (cI, 250, .inl (fo_joined F_h2)))] H → va_D A [(h_F, .inr (1, [.ref a_F_members, .ref a_F_lowest, .ref a_F_nextMember, .int (fo_trees F_h2), .int (fo_latest F_h2), .ref a_F_above, .ref a_F_joined])), (a_F_members, .inl (cI, 250, .inl (fo_members F_h2))), (a_F_lowest, .inl (cI, 250, .inl (fo_lowest F_h2))), (a_F_nextMember, .inl (cI, 250, .inl (fo_nextMember F_h2))), (a_F_above, .inl (cI, 250, .inl (fo_above F_h2))), (a_F_joined, .inl (cI, 250, .inl (fo_joined F_h2)))] → va_S A s.heap H locs → lv_has ls 3 [(0, .ref h_F), (1, .int l1), (2, .int l2_h2)] → wl2 (B_X1_plant_2 l1 (K_X1_plant_2_49 l1 post)) n l2_h2 F_h2 → G H locs (F0 m 2 ls []) := by
    intro n
    induction n with
    | zero =>
      intro l2_h2 F_h2 H locs ls hP hD hS hl hw
      exact hw.elim
    | succ n_2 ih_2 =>
      intro l2_h2 F_h2 H locs ls hP hD hS hl hw
      have hw : B_X1_plant_2 l1 (K_X1_plant_2_49 l1 post) (wl2 (B_X1_plant_2 l1 (K_X1_plant_2_49 l1 post)) n_2) l2_h2 F_h2 := hw
      unfold B_X1_plant_2 at hw
      refine gI _ _ _ ?_
      refine lv_iload_n hx hb dX1_plant_2 rfl (lv_at hl 2 rfl) ?_
      refine lv_iload_n hx hb dX1_plant_3 rfl (lv_at hl 1 rfl) ?_
      refine lv_icmp_ge (tgt := 49) hx hb dX1_plant_4 (by decide) (fun c_1 => ?_) (fun c_1 => ?_)
      · have hw := hw.1 c_1
        exact gE _ _ _ (hk_2_49 l2_h2 F_h2 H locs ls hP hD hS (lv_sub hl [0, 1, 2] rfl) hw)
      · have hw := hw.2 c_1
        refine lv_aload_n hx hb dX1_plant_7 rfl (lv_at hl 0 rfl) ?_
        refine va_get (D := (dC, dI)) (ci := 1) (v := .ref a_F_members) (C := RX1) (T := TX1) (N := 7) hx hb hts in_X1 hown hK hP 0 rfl rfl 0 (by decide) lk_9 (fun _ h9 => h9) rfl dX1_plant_8 ?_
        refine lv_iload_n hx hb dX1_plant_11 rfl (lv_at hl 2 rfl) ?_
        refine lv_iconst (v := (1 : Int32)) hx hb dX1_plant_12 (by decide) ?_
        obtain ⟨hi_2, hw⟩ := hw
        refine va_iast hx hb hK hP hD hS 1 0 rfl rfl hi_2 dX1_plant_13 (fun H locs hP hD hS => ?_)
        have hP : va_P (dC, dI) vwCl [(h_F, .inr (1, [.ref a_F_members, .ref a_F_lowest, .ref a_F_nextMember, .int (fo_trees F_h2), .int (fo_latest F_h2), .ref a_F_above, .ref a_F_joined])), (a_F_members, .inl (cI, 250, .inl (upd (fo_members F_h2) l2_h2.toNatClampNeg (1 : Int32)))), (a_F_lowest, .inl (cI, 250, .inl (fo_lowest F_h2))), (a_F_nextMember, .inl (cI, 250, .inl (fo_nextMember F_h2))), (a_F_above, .inl (cI, 250, .inl (fo_above F_h2))), (a_F_joined, .inl (cI, 250, .inl (fo_joined F_h2)))] H := hP
        have hD : va_D A [(h_F, .inr (1, [.ref a_F_members, .ref a_F_lowest, .ref a_F_nextMember, .int (fo_trees F_h2), .int (fo_latest F_h2), .ref a_F_above, .ref a_F_joined])), (a_F_members, .inl (cI, 250, .inl (upd (fo_members F_h2) l2_h2.toNatClampNeg (1 : Int32)))), (a_F_lowest, .inl (cI, 250, .inl (fo_lowest F_h2))), (a_F_nextMember, .inl (cI, 250, .inl (fo_nextMember F_h2))), (a_F_above, .inl (cI, 250, .inl (fo_above F_h2))), (a_F_joined, .inl (cI, 250, .inl (fo_joined F_h2)))] := hD
        refine lv_aload_n hx hb dX1_plant_14 rfl (lv_at hl 0 rfl) ?_
        refine va_get (D := (dC, dI)) (ci := 1) (v := .ref a_F_lowest) (C := RX1) (T := TX1) (N := 7) hx hb hts in_X1 hown hK hP 0 rfl rfl 1 (by decide) lk_15 (fun _ h9 => h9) rfl dX1_plant_15 ?_
        refine lv_iload_n hx hb dX1_plant_18 rfl (lv_at hl 2 rfl) ?_
        refine lv_iload_n hx hb dX1_plant_19 rfl (lv_at hl 2 rfl) ?_
        refine va_iast hx hb hK hP hD hS 2 0 rfl rfl hi_2 dX1_plant_20 (fun H locs hP hD hS => ?_)
        have hP : va_P (dC, dI) vwCl [(h_F, .inr (1, [.ref a_F_members, .ref a_F_lowest, .ref a_F_nextMember, .int (fo_trees F_h2), .int (fo_latest F_h2), .ref a_F_above, .ref a_F_joined])), (a_F_members, .inl (cI, 250, .inl (upd (fo_members F_h2) l2_h2.toNatClampNeg (1 : Int32)))), (a_F_lowest, .inl (cI, 250, .inl (upd (fo_lowest F_h2) l2_h2.toNatClampNeg l2_h2))), (a_F_nextMember, .inl (cI, 250, .inl (fo_nextMember F_h2))), (a_F_above, .inl (cI, 250, .inl (fo_above F_h2))), (a_F_joined, .inl (cI, 250, .inl (fo_joined F_h2)))] H := hP
        have hD : va_D A [(h_F, .inr (1, [.ref a_F_members, .ref a_F_lowest, .ref a_F_nextMember, .int (fo_trees F_h2), .int (fo_latest F_h2), .ref a_F_above, .ref a_F_joined])), (a_F_members, .inl (cI, 250, .inl (upd (fo_members F_h2) l2_h2.toNatClampNeg (1 : Int32)))), (a_F_lowest, .inl (cI, 250, .inl (upd (fo_lowest F_h2) l2_h2.toNatClampNeg l2_h2))), (a_F_nextMember, .inl (cI, 250, .inl (fo_nextMember F_h2))), (a_F_above, .inl (cI, 250, .inl (fo_above F_h2))), (a_F_joined, .inl (cI, 250, .inl (fo_joined F_h2)))] := hD
        refine lv_aload_n hx hb dX1_plant_21 rfl (lv_at hl 0 rfl) ?_
        refine va_get (D := (dC, dI)) (ci := 1) (v := .ref a_F_nextMember) (C := RX1) (T := TX1) (N := 7) hx hb hts in_X1 hown hK hP 0 rfl rfl 2 (by decide) lk_18 (fun _ h9 => h9) rfl dX1_plant_22 ?_
        refine lv_iload_n hx hb dX1_plant_25 rfl (lv_at hl 2 rfl) ?_
        refine lv_iload_n hx hb dX1_plant_26 rfl (lv_at hl 2 rfl) ?_
        refine va_iast hx hb hK hP hD hS 3 0 rfl rfl hi_2 dX1_plant_27 (fun H locs hP hD hS => ?_)
        have hP : va_P (dC, dI) vwCl [(h_F, .inr (1, [.ref a_F_members, .ref a_F_lowest, .ref a_F_nextMember, .int (fo_trees F_h2), .int (fo_latest F_h2), .ref a_F_above, .ref a_F_joined])), (a_F_members, .inl (cI, 250, .inl (upd (fo_members F_h2) l2_h2.toNatClampNeg (1 : Int32)))), (a_F_lowest, .inl (cI, 250, .inl (upd (fo_lowest F_h2) l2_h2.toNatClampNeg l2_h2))), (a_F_nextMember, .inl (cI, 250, .inl (upd (fo_nextMember F_h2) l2_h2.toNatClampNeg l2_h2))), (a_F_above, .inl (cI, 250, .inl (fo_above F_h2))), (a_F_joined, .inl (cI, 250, .inl (fo_joined F_h2)))] H := hP
        have hD : va_D A [(h_F, .inr (1, [.ref a_F_members, .ref a_F_lowest, .ref a_F_nextMember, .int (fo_trees F_h2), .int (fo_latest F_h2), .ref a_F_above, .ref a_F_joined])), (a_F_members, .inl (cI, 250, .inl (upd (fo_members F_h2) l2_h2.toNatClampNeg (1 : Int32)))), (a_F_lowest, .inl (cI, 250, .inl (upd (fo_lowest F_h2) l2_h2.toNatClampNeg l2_h2))), (a_F_nextMember, .inl (cI, 250, .inl (upd (fo_nextMember F_h2) l2_h2.toNatClampNeg l2_h2))), (a_F_above, .inl (cI, 250, .inl (fo_above F_h2))), (a_F_joined, .inl (cI, 250, .inl (fo_joined F_h2)))] := hD
        refine lv_aload_n hx hb dX1_plant_28 rfl (lv_at hl 0 rfl) ?_
        refine va_get (D := (dC, dI)) (ci := 1) (v := .ref a_F_above) (C := RX1) (T := TX1) (N := 7) hx hb hts in_X1 hown hK hP 0 rfl rfl 5 (by decide) lk_21 (fun _ h9 => h9) rfl dX1_plant_29 ?_
        refine lv_iload_n hx hb dX1_plant_32 rfl (lv_at hl 2 rfl) ?_
        refine lv_iload_n hx hb dX1_plant_33 rfl (lv_at hl 2 rfl) ?_
        refine va_iast hx hb hK hP hD hS 4 0 rfl rfl hi_2 dX1_plant_34 (fun H locs hP hD hS => ?_)
        have hP : va_P (dC, dI) vwCl [(h_F, .inr (1, [.ref a_F_members, .ref a_F_lowest, .ref a_F_nextMember, .int (fo_trees F_h2), .int (fo_latest F_h2), .ref a_F_above, .ref a_F_joined])), (a_F_members, .inl (cI, 250, .inl (upd (fo_members F_h2) l2_h2.toNatClampNeg (1 : Int32)))), (a_F_lowest, .inl (cI, 250, .inl (upd (fo_lowest F_h2) l2_h2.toNatClampNeg l2_h2))), (a_F_nextMember, .inl (cI, 250, .inl (upd (fo_nextMember F_h2) l2_h2.toNatClampNeg l2_h2))), (a_F_above, .inl (cI, 250, .inl (upd (fo_above F_h2) l2_h2.toNatClampNeg l2_h2))), (a_F_joined, .inl (cI, 250, .inl (fo_joined F_h2)))] H := hP
        have hD : va_D A [(h_F, .inr (1, [.ref a_F_members, .ref a_F_lowest, .ref a_F_nextMember, .int (fo_trees F_h2), .int (fo_latest F_h2), .ref a_F_above, .ref a_F_joined])), (a_F_members, .inl (cI, 250, .inl (upd (fo_members F_h2) l2_h2.toNatClampNeg (1 : Int32)))), (a_F_lowest, .inl (cI, 250, .inl (upd (fo_lowest F_h2) l2_h2.toNatClampNeg l2_h2))), (a_F_nextMember, .inl (cI, 250, .inl (upd (fo_nextMember F_h2) l2_h2.toNatClampNeg l2_h2))), (a_F_above, .inl (cI, 250, .inl (upd (fo_above F_h2) l2_h2.toNatClampNeg l2_h2))), (a_F_joined, .inl (cI, 250, .inl (fo_joined F_h2)))] := hD
        refine lv_aload_n hx hb dX1_plant_35 rfl (lv_at hl 0 rfl) ?_
        refine va_get (D := (dC, dI)) (ci := 1) (v := .ref a_F_joined) (C := RX1) (T := TX1) (N := 7) hx hb hts in_X1 hown hK hP 0 rfl rfl 6 (by decide) lk_24 (fun _ h9 => h9) rfl dX1_plant_36 ?_
        refine lv_iload_n hx hb dX1_plant_39 rfl (lv_at hl 2 rfl) ?_
        refine lv_ldc (v := (1000000 : Int32)) hx hb hown lk_27 dX1_plant_40 ?_
        refine va_iast hx hb hK hP hD hS 5 0 rfl rfl hi_2 dX1_plant_42 (fun H locs hP hD hS => ?_)
        have hP : va_P (dC, dI) vwCl [(h_F, .inr (1, [.ref a_F_members, .ref a_F_lowest, .ref a_F_nextMember, .int (fo_trees F_h2), .int (fo_latest F_h2), .ref a_F_above, .ref a_F_joined])), (a_F_members, .inl (cI, 250, .inl (upd (fo_members F_h2) l2_h2.toNatClampNeg (1 : Int32)))), (a_F_lowest, .inl (cI, 250, .inl (upd (fo_lowest F_h2) l2_h2.toNatClampNeg l2_h2))), (a_F_nextMember, .inl (cI, 250, .inl (upd (fo_nextMember F_h2) l2_h2.toNatClampNeg l2_h2))), (a_F_above, .inl (cI, 250, .inl (upd (fo_above F_h2) l2_h2.toNatClampNeg l2_h2))), (a_F_joined, .inl (cI, 250, .inl (upd (fo_joined F_h2) l2_h2.toNatClampNeg (1000000 : Int32))))] H := hP
        have hD : va_D A [(h_F, .inr (1, [.ref a_F_members, .ref a_F_lowest, .ref a_F_nextMember, .int (fo_trees F_h2), .int (fo_latest F_h2), .ref a_F_above, .ref a_F_joined])), (a_F_members, .inl (cI, 250, .inl (upd (fo_members F_h2) l2_h2.toNatClampNeg (1 : Int32)))), (a_F_lowest, .inl (cI, 250, .inl (upd (fo_lowest F_h2) l2_h2.toNatClampNeg l2_h2))), (a_F_nextMember, .inl (cI, 250, .inl (upd (fo_nextMember F_h2) l2_h2.toNatClampNeg l2_h2))), (a_F_above, .inl (cI, 250, .inl (upd (fo_above F_h2) l2_h2.toNatClampNeg l2_h2))), (a_F_joined, .inl (cI, 250, .inl (upd (fo_joined F_h2) l2_h2.toNatClampNeg (1000000 : Int32))))] := hD
        refine lv_iinc (v := (l2_h2 + 1)) (lv' := [(2, .int (l2_h2 + 1)), (0, .ref h_F), (1, .int l1)]) hx hb dX1_plant_43 hl (k := 2) rfl rfl (by decide) rfl (fun ls hl => ?_)
        refine lv_goto (tgt := 2) hx hb dX1_plant_46 (by decide) ?_
        exact gE _ _ _ (ih_2 (l2_h2 + 1) (fo_s_joined (fo_s_above (fo_s_nextMember (fo_s_lowest (fo_s_members F_h2 (upd (fo_members F_h2) l2_h2.toNatClampNeg (1 : Int32))) (upd (fo_lowest F_h2) l2_h2.toNatClampNeg l2_h2)) (upd (fo_nextMember F_h2) l2_h2.toNatClampNeg l2_h2)) (upd (fo_above F_h2) l2_h2.toNatClampNeg l2_h2)) (upd (fo_joined F_h2) l2_h2.toNatClampNeg (1000000 : Int32))) H locs ls hP hD hS (lv_sub hl [1, 2, 0] rfl) hw)
  exact gE _ _ _ (hL_2 n_2 (0 : Int32) F H locs ls hP hD hS (lv_sub hl [1, 2, 0] rfl) hw)
def K_X1_top_4_34 (post : Int32 → Prop) (l2 : Int32) (l3 : Int32) : Prop := (post l2)
def B_X1_top_4 (F : FoS) (ke_4_34 : Int32 → Int32 → Prop) (kb_4 : Int32 → Int32 → Prop) (l2 : Int32) (l3 : Int32) : Prop := (((250 : Int32) ≤ l3 → (ke_4_34 l2 l3)) ∧ (¬ (250 : Int32) ≤ l3 → (vp_in l2 250 ∧ ((((fo_above F) l2.toNatClampNeg) = l2 → (ke_4_34 l2 l3)) ∧ (¬ ((fo_above F) l2.toNatClampNeg) = l2 → (∀ x_4 : Int32, x_4 = ((fo_above F) l2.toNatClampNeg) → (kb_4 x_4 (l3 + 1))))))))
def wp_X1_top (F : FoS) (l1 : Int32) (post : Int32 → Prop) : Prop := (∃ n : Nat, wl2 (B_X1_top_4 F (K_X1_top_4_34 post)) n l1 (0 : Int32))
set_option maxHeartbeats 4000000 in
set_option maxRecDepth 100000 in
theorem c_X1_top (l : Launch) (dC : Nat → ClassId) (dI : Nat → Nat → Nat) (cI cZ : ClassId) (sz : Nat) (h_F a_F_members a_F_lowest a_F_nextMember a_F_above a_F_joined : Nat) (F : FoS) (l1 : Int32) (post : Int32 → Prop) : Met l yX1_top wsX1_top ({ frames := 0, cells := 0, slots := 0, locals := 0 }) (va_Pc [.ref h_F, .int l1] (fun U => U.heap.size = sz ∧ va_P (dC, dI) vwCl [(h_F, .inr (1, [.ref a_F_members, .ref a_F_lowest, .ref a_F_nextMember, .int (fo_trees F), .int (fo_latest F), .ref a_F_above, .ref a_F_joined])), (a_F_above, .inl (cI, 250, .inl (fo_above F)))] U.heap ∧ va_K (dC, dI) vwCl [(cI, .int), (cZ, .boolean)] U ∧ va_D (fun _ => True) [(h_F, .inr (1, [.ref a_F_members, .ref a_F_lowest, .ref a_F_nextMember, .int (fo_trees F), .int (fo_latest F), .ref a_F_above, .ref a_F_joined])), (a_F_above, .inl (cI, 250, .inl (fo_above F)))] ∧ wp_X1_top F l1 post)) (va_Qi (fun (r : Int32) (u : Unit) => post r ) (fun (u : Unit) (t : State) => va_P (dC, dI) vwCl [(h_F, .inr (1, [.ref a_F_members, .ref a_F_lowest, .ref a_F_nextMember, .int (fo_trees F), .int (fo_latest F), .ref a_F_above, .ref a_F_joined])), (a_F_above, .inl (cI, 250, .inl (fo_above F)))] t.heap ∧ va_K (dC, dI) vwCl [(cI, .int), (cZ, .boolean)] t ∧ va_D (va_A [(h_F, .inr (1, [.ref a_F_members, .ref a_F_lowest, .ref a_F_nextMember, .int (fo_trees F), .int (fo_latest F), .ref a_F_above, .ref a_F_joined])), (a_F_above, .inl (cI, 250, .inl (fo_above F)))] sz) [(h_F, .inr (1, [.ref a_F_members, .ref a_F_lowest, .ref a_F_nextMember, .int (fo_trees F), .int (fo_latest F), .ref a_F_above, .ref a_F_joined])), (a_F_above, .inl (cI, 250, .inl (fo_above F)))]) (va_A [(h_F, .inr (1, [.ref a_F_members, .ref a_F_lowest, .ref a_F_nextMember, .int (fo_trees F), .int (fo_latest F), .ref a_F_above, .ref a_F_joined])), (a_F_above, .inl (cI, 250, .inl (fo_above F)))] sz)) 0 0 (va_A [(h_F, .inr (1, [.ref a_F_members, .ref a_F_lowest, .ref a_F_nextMember, .int (fo_trees F), .int (fo_latest F), .ref a_F_above, .ref a_F_joined])), (a_F_above, .inl (cI, 250, .inl (fo_above F)))] sz) := by
  refine Met.ofW (cc := cX1_top) (maxL := 4) (ret := (some .int)) (by decide) rfl ?_
  intro p e s m args below meth c s₁ B hml hv
  obtain ⟨rfl, hsz, hP, hK, hD0, hw⟩ := hv
  have hx := B.exec
  have hb := B.bytes
  have hr := B.returns
  have hts := atoms_spec (ws := wsX1_top) B.pre
  have hown : s.vm.findClass RX1 = some m.cls := findClass_of_methodNamed B.named
  have hlocks := B.notSynchronized
  subst hsz
  have hD := hD0.self (sz := s.heap.size)
  generalize hAe : va_A [(h_F, .inr (1, [.ref a_F_members, .ref a_F_lowest, .ref a_F_nextMember, .int (fo_trees F), .int (fo_latest F), .ref a_F_above, .ref a_F_joined])), (a_F_above, .inl (cI, 250, .inl (fo_above F)))] s.heap.size = A at hD ⊢
  have hA : ∀ q : Nat, s.heap.size ≤ q → A q := fun q h => by rw [← hAe]; exact Or.inr h
  have hS : va_S A s.heap s.heap [] := va_S.rf
  have hP : va_P (dC, dI) vwCl [(h_F, .inr (1, [.ref a_F_members, .ref a_F_lowest, .ref a_F_nextMember, .int (fo_trees F), .int (fo_latest F), .ref a_F_above, .ref a_F_joined])), (a_F_above, .inl (cI, 250, .inl (fo_above F)))] s.heap := hP
  have hl := lv_entry ([.ref h_F, .int l1]) (n := 4) (Nat.le_of_ble_eq_true rfl)
  rw [lg_entry_eq]
  generalize (lg_sl ([.ref h_F, .int l1]) ++ List.replicate (4 - (lg_sl ([.ref h_F, .int l1])).length) Slot.unset).toArray = ls at hl ⊢
  have hl : lv_has ls 4 [(0, .ref h_F), (1, .int l1)] := hl
  have in_X1 : ∀ w ∈ wsX10, w ∈ wsX1_top := by decide +kernel
  have lk_21 := hts (.fieldLink RX1 21 "SameTerms$Forest" "above" "[I") (by decide +kernel)
  unfold wp_X1_top at hw
  refine w_goal (fun G gI gE => gI _ _ _ ?_)
  obtain ⟨H, hH⟩ : ∃ H : Heap, H = s.heap := ⟨_, rfl⟩
  obtain ⟨locs, hlocs⟩ : ∃ z : List Loc, z = [] := ⟨_, rfl⟩
  rw [← hH] at hP
  have hS : va_S A s.heap H locs := by rw [hH, hlocs]; exact hS
  refine w_start hH hlocs ?_
  refine lv_iload_n hx hb dX1_top_0 rfl (lv_at hl 1 rfl) ?_
  refine lv_istore_n (lv' := [(2, .int l1), (0, .ref h_F), (1, .int l1)]) hx hb dX1_top_1 rfl hl (by decide) rfl (fun ls hl => ?_)
  refine lv_iconst (v := (0 : Int32)) hx hb dX1_top_2 (by decide) ?_
  refine lv_istore_n (lv' := [(3, .int (0 : Int32)), (2, .int l1), (0, .ref h_F), (1, .int l1)]) hx hb dX1_top_3 rfl hl (by decide) rfl (fun ls hl => ?_)
  obtain ⟨n_4, hw⟩ := hw
  have hk_4_34 : ∀ (l2_h4 : Int32) (l3_h4 : Int32) (H : Heap) (locs : List Loc) (ls : Array Slot), va_P (dC, dI) vwCl [(h_F, .inr (1, [.ref a_F_members, .ref a_F_lowest, .ref a_F_nextMember, .int (fo_trees F), .int (fo_latest F), .ref a_F_above, .ref a_F_joined])), (a_F_above, .inl (cI, 250, .inl (fo_above F)))] H → va_D A [(h_F, .inr (1, [.ref a_F_members, .ref a_F_lowest, .ref a_F_nextMember, .int (fo_trees F), .int (fo_latest F), .ref a_F_above, .ref a_F_joined])), (a_F_above, .inl (cI, 250, .inl (fo_above F)))] → va_S A s.heap H locs → lv_has ls 4 [(0, .ref h_F), (1, .int l1), (2, .int l2_h4), (3, .int l3_h4)] → (K_X1_top_4_34 post) l2_h4 l3_h4 → G H locs (F0 m 34 ls []) := by
    intro l2_h4 l3_h4 H locs ls hP hD hS hl hw
    unfold K_X1_top_4_34 at hw
    refine gI _ _ _ ?_
    refine lv_iload_n hx hb dX1_top_34 rfl (lv_at hl 2 rfl) ?_
    exact W.iret (v := l2_h4) hx hb hr (fun t ht hW => ⟨⟨l2_h4, (), rfl, hw, by rw [ht]; exact hP, va_K.moved hW.alike hK, hD⟩, hS.F ht⟩) hS.2.2 dX1_top_35
  have hL_4 : ∀ (n : Nat) (l2_h4 : Int32) (l3_h4 : Int32) (H : Heap) (locs : List Loc) (ls : Array Slot), va_P (dC, dI) vwCl [(h_F, .inr (1, [.ref a_F_members, .ref a_F_lowest, .ref a_F_nextMember, .int (fo_trees F), .int (fo_latest F), .ref a_F_above, .ref a_F_joined])), (a_F_above, .inl (cI, 250, .inl (fo_above F)))] H → va_D A [(h_F, .inr (1, [.ref a_F_members, .ref a_F_lowest, .ref a_F_nextMember, .int (fo_trees F), .int (fo_latest F), .ref a_F_above, .ref a_F_joined])), (a_F_above, .inl (cI, 250, .inl (fo_above F)))] → va_S A s.heap H locs → lv_has ls 4 [(0, .ref h_F), (1, .int l1), (2, .int l2_h4), (3, .int l3_h4)] → wl2 (B_X1_top_4 F (K_X1_top_4_34 post)) n l2_h4 l3_h4 → G H locs (F0 m 4 ls []) := by
    intro n
    induction n with
    | zero =>
      intro l2_h4 l3_h4 H locs ls hP hD hS hl hw
      exact hw.elim
    | succ n_4 ih_4 =>
      intro l2_h4 l3_h4 H locs ls hP hD hS hl hw
      have hw : B_X1_top_4 F (K_X1_top_4_34 post) (wl2 (B_X1_top_4 F (K_X1_top_4_34 post)) n_4) l2_h4 l3_h4 := hw
      unfold B_X1_top_4 at hw
      refine gI _ _ _ ?_
      refine lv_iload_n hx hb dX1_top_4 rfl (lv_at hl 3 rfl) ?_
      refine lv_sipush (v := (250 : Int32)) hx hb dX1_top_5 (by decide) ?_
      refine lv_icmp_ge (tgt := 34) hx hb dX1_top_8 (by decide) (fun c_1 => ?_) (fun c_1 => ?_)
      · have hw := hw.1 c_1
        exact gE _ _ _ (hk_4_34 l2_h4 l3_h4 H locs ls hP hD hS (lv_sub hl [0, 1, 2, 3] rfl) hw)
      · have hw := hw.2 c_1
        refine lv_aload_n hx hb dX1_top_11 rfl (lv_at hl 0 rfl) ?_
        refine va_get (D := (dC, dI)) (ci := 1) (v := .ref a_F_above) (C := RX1) (T := TX1) (N := 7) hx hb hts in_X1 hown hK hP 0 rfl rfl 5 (by decide) lk_21 (fun _ h9 => h9) rfl dX1_top_12 ?_
        refine lv_iload_n hx hb dX1_top_15 rfl (lv_at hl 2 rfl) ?_
        obtain ⟨hi_2, hw⟩ := hw
        refine va_iald hx hb hK hP 1 0 rfl rfl hi_2 dX1_top_16 ?_
        refine lv_iload_n hx hb dX1_top_17 rfl (lv_at hl 2 rfl) ?_
        refine lv_icmp_eq (tgt := 34) hx hb dX1_top_18 (by decide) (fun c_3 => ?_) (fun c_3 => ?_)
        · have hw := hw.1 c_3
          exact gE _ _ _ (hk_4_34 l2_h4 l3_h4 H locs ls hP hD hS (lv_sub hl [0, 1, 2, 3] rfl) hw)
        · have hw := hw.2 c_3
          refine lv_aload_n hx hb dX1_top_21 rfl (lv_at hl 0 rfl) ?_
          refine va_get (D := (dC, dI)) (ci := 1) (v := .ref a_F_above) (C := RX1) (T := TX1) (N := 7) hx hb hts in_X1 hown hK hP 0 rfl rfl 5 (by decide) lk_21 (fun _ h9 => h9) rfl dX1_top_22 ?_
          refine lv_iload_n hx hb dX1_top_25 rfl (lv_at hl 2 rfl) ?_
          refine va_iald hx hb hK hP 1 0 rfl rfl hi_2 dX1_top_26 ?_
          refine lv_topi (fun x_4 ex_4 => ?_)
          have hw := hw x_4 ex_4
          refine lv_istore_n (lv' := [(2, .int x_4), (0, .ref h_F), (1, .int l1), (3, .int l3_h4)]) hx hb dX1_top_27 rfl hl (by decide) rfl (fun ls hl => ?_)
          refine lv_iinc (v := (l3_h4 + 1)) (lv' := [(3, .int (l3_h4 + 1)), (2, .int x_4), (0, .ref h_F), (1, .int l1)]) hx hb dX1_top_28 hl (k := 3) rfl rfl (by decide) rfl (fun ls hl => ?_)
          refine lv_goto (tgt := 4) hx hb dX1_top_31 (by decide) ?_
          exact gE _ _ _ (ih_4 x_4 (l3_h4 + 1) H locs ls hP hD hS (lv_sub hl [2, 3, 1, 0] rfl) hw)
  exact gE _ _ _ (hL_4 n_4 l1 (0 : Int32) H locs ls hP hD hS (lv_sub hl [2, 3, 1, 0] rfl) hw)
def K_X1_meeting_11_85 (post : Int32 → Prop) (l3 : Int32) (l4 : Int32) (l5 : Int32) (l6 : Int32) : Prop := (post l5)
def B_X1_meeting_11 (F : FoS) (post : Int32 → Prop) (ke_11_85 : Int32 → Int32 → Int32 → Int32 → Prop) (kb_11 : Int32 → Int32 → Int32 → Int32 → Prop) (l3 : Int32) (l4 : Int32) (l5 : Int32) (l6 : Int32) : Prop := (((500 : Int32) ≤ l6 → (ke_11_85 l3 l4 l5 l6)) ∧ (¬ (500 : Int32) ≤ l6 → ((l3 = l4 → (ke_11_85 l3 l4 l5 l6)) ∧ (¬ l3 = l4 → (vp_in l3 250 ∧ (vp_in l4 250 ∧ ((((fo_joined F) l3.toNatClampNeg) ≤ ((fo_joined F) l4.toNatClampNeg) → ((((fo_joined F) l3.toNatClampNeg) = (1000000 : Int32) → (post (-1 : Int32))) ∧ (¬ ((fo_joined F) l3.toNatClampNeg) = (1000000 : Int32) → (∀ x_7 : Int32, x_7 = ((fo_joined F) l3.toNatClampNeg) → (∀ x_8 : Int32, x_8 = ((fo_above F) l3.toNatClampNeg) → (kb_11 x_8 l4 x_7 (l6 + 1))))))) ∧ (¬ ((fo_joined F) l3.toNatClampNeg) ≤ ((fo_joined F) l4.toNatClampNeg) → ((((fo_joined F) l4.toNatClampNeg) = (1000000 : Int32) → (post (-1 : Int32))) ∧ (¬ ((fo_joined F) l4.toNatClampNeg) = (1000000 : Int32) → (∀ x_10 : Int32, x_10 = ((fo_joined F) l4.toNatClampNeg) → (∀ x_11 : Int32, x_11 = ((fo_above F) l4.toNatClampNeg) → (kb_11 x_11 l3 x_10 (l6 + 1))))))))))))))
def wp_X1_meeting (F : FoS) (l1 : Int32) (l2 : Int32) (post : Int32 → Prop) : Prop := (∃ n : Nat, wl4 (B_X1_meeting_11 F post (K_X1_meeting_11_85 post)) n l1 l2 (0 : Int32) (0 : Int32))
set_option maxHeartbeats 4000000 in
set_option maxRecDepth 100000 in
theorem c_X1_meeting (l : Launch) (dC : Nat → ClassId) (dI : Nat → Nat → Nat) (cI cZ : ClassId) (sz : Nat) (h_F a_F_members a_F_lowest a_F_nextMember a_F_above a_F_joined : Nat) (F : FoS) (l1 : Int32) (l2 : Int32) (post : Int32 → Prop) : Met l yX1_meeting wsX1_meeting ({ frames := 0, cells := 0, slots := 0, locals := 0 }) (va_Pc [.ref h_F, .int l1, .int l2] (fun U => U.heap.size = sz ∧ va_P (dC, dI) vwCl [(h_F, .inr (1, [.ref a_F_members, .ref a_F_lowest, .ref a_F_nextMember, .int (fo_trees F), .int (fo_latest F), .ref a_F_above, .ref a_F_joined])), (a_F_above, .inl (cI, 250, .inl (fo_above F))), (a_F_joined, .inl (cI, 250, .inl (fo_joined F)))] U.heap ∧ va_K (dC, dI) vwCl [(cI, .int), (cZ, .boolean)] U ∧ va_D (fun _ => True) [(h_F, .inr (1, [.ref a_F_members, .ref a_F_lowest, .ref a_F_nextMember, .int (fo_trees F), .int (fo_latest F), .ref a_F_above, .ref a_F_joined])), (a_F_above, .inl (cI, 250, .inl (fo_above F))), (a_F_joined, .inl (cI, 250, .inl (fo_joined F)))] ∧ wp_X1_meeting F l1 l2 post)) (va_Qi (fun (r : Int32) (u : Unit) => post r ) (fun (u : Unit) (t : State) => va_P (dC, dI) vwCl [(h_F, .inr (1, [.ref a_F_members, .ref a_F_lowest, .ref a_F_nextMember, .int (fo_trees F), .int (fo_latest F), .ref a_F_above, .ref a_F_joined])), (a_F_above, .inl (cI, 250, .inl (fo_above F))), (a_F_joined, .inl (cI, 250, .inl (fo_joined F)))] t.heap ∧ va_K (dC, dI) vwCl [(cI, .int), (cZ, .boolean)] t ∧ va_D (va_A [(h_F, .inr (1, [.ref a_F_members, .ref a_F_lowest, .ref a_F_nextMember, .int (fo_trees F), .int (fo_latest F), .ref a_F_above, .ref a_F_joined])), (a_F_above, .inl (cI, 250, .inl (fo_above F))), (a_F_joined, .inl (cI, 250, .inl (fo_joined F)))] sz) [(h_F, .inr (1, [.ref a_F_members, .ref a_F_lowest, .ref a_F_nextMember, .int (fo_trees F), .int (fo_latest F), .ref a_F_above, .ref a_F_joined])), (a_F_above, .inl (cI, 250, .inl (fo_above F))), (a_F_joined, .inl (cI, 250, .inl (fo_joined F)))]) (va_A [(h_F, .inr (1, [.ref a_F_members, .ref a_F_lowest, .ref a_F_nextMember, .int (fo_trees F), .int (fo_latest F), .ref a_F_above, .ref a_F_joined])), (a_F_above, .inl (cI, 250, .inl (fo_above F))), (a_F_joined, .inl (cI, 250, .inl (fo_joined F)))] sz)) 0 0 (va_A [(h_F, .inr (1, [.ref a_F_members, .ref a_F_lowest, .ref a_F_nextMember, .int (fo_trees F), .int (fo_latest F), .ref a_F_above, .ref a_F_joined])), (a_F_above, .inl (cI, 250, .inl (fo_above F))), (a_F_joined, .inl (cI, 250, .inl (fo_joined F)))] sz) := by
  refine Met.ofW (cc := cX1_meeting) (maxL := 8) (ret := (some .int)) (by decide) rfl ?_
  intro p e s m args below meth c s₁ B hml hv
  obtain ⟨rfl, hsz, hP, hK, hD0, hw⟩ := hv
  have hx := B.exec
  have hb := B.bytes
  have hr := B.returns
  have hts := atoms_spec (ws := wsX1_meeting) B.pre
  have hown : s.vm.findClass RX1 = some m.cls := findClass_of_methodNamed B.named
  have hlocks := B.notSynchronized
  subst hsz
  have hD := hD0.self (sz := s.heap.size)
  generalize hAe : va_A [(h_F, .inr (1, [.ref a_F_members, .ref a_F_lowest, .ref a_F_nextMember, .int (fo_trees F), .int (fo_latest F), .ref a_F_above, .ref a_F_joined])), (a_F_above, .inl (cI, 250, .inl (fo_above F))), (a_F_joined, .inl (cI, 250, .inl (fo_joined F)))] s.heap.size = A at hD ⊢
  have hA : ∀ q : Nat, s.heap.size ≤ q → A q := fun q h => by rw [← hAe]; exact Or.inr h
  have hS : va_S A s.heap s.heap [] := va_S.rf
  have hP : va_P (dC, dI) vwCl [(h_F, .inr (1, [.ref a_F_members, .ref a_F_lowest, .ref a_F_nextMember, .int (fo_trees F), .int (fo_latest F), .ref a_F_above, .ref a_F_joined])), (a_F_above, .inl (cI, 250, .inl (fo_above F))), (a_F_joined, .inl (cI, 250, .inl (fo_joined F)))] s.heap := hP
  have hl := lv_entry ([.ref h_F, .int l1, .int l2]) (n := 8) (Nat.le_of_ble_eq_true rfl)
  rw [lg_entry_eq]
  generalize (lg_sl ([.ref h_F, .int l1, .int l2]) ++ List.replicate (8 - (lg_sl ([.ref h_F, .int l1, .int l2])).length) Slot.unset).toArray = ls at hl ⊢
  have hl : lv_has ls 8 [(0, .ref h_F), (1, .int l1), (2, .int l2)] := hl
  have in_X1 : ∀ w ∈ wsX10, w ∈ wsX1_meeting := by decide +kernel
  have lk_24 := hts (.fieldLink RX1 24 "SameTerms$Forest" "joined" "[I") (by decide +kernel)
  have lk_27 := hts (.constant RX1 27 (1000000)) (by decide +kernel)
  have lk_21 := hts (.fieldLink RX1 21 "SameTerms$Forest" "above" "[I") (by decide +kernel)
  unfold wp_X1_meeting at hw
  refine w_goal (fun G gI gE => gI _ _ _ ?_)
  obtain ⟨H, hH⟩ : ∃ H : Heap, H = s.heap := ⟨_, rfl⟩
  obtain ⟨locs, hlocs⟩ : ∃ z : List Loc, z = [] := ⟨_, rfl⟩
  rw [← hH] at hP
  have hS : va_S A s.heap H locs := by rw [hH, hlocs]; exact hS
  refine w_start hH hlocs ?_
  refine lv_iload_n hx hb dX1_meeting_0 rfl (lv_at hl 1 rfl) ?_
  refine lv_istore_n (lv' := [(3, .int l1), (0, .ref h_F), (1, .int l1), (2, .int l2)]) hx hb dX1_meeting_1 rfl hl (by decide) rfl (fun ls hl => ?_)
  refine lv_iload_n hx hb dX1_meeting_2 rfl (lv_at hl 3 rfl) ?_
  refine lv_istore (lv' := [(4, .int l2), (3, .int l1), (0, .ref h_F), (1, .int l1), (2, .int l2)]) hx hb dX1_meeting_3 hl (by decide) rfl (fun ls hl => ?_)
  refine lv_iconst (v := (0 : Int32)) hx hb dX1_meeting_5 (by decide) ?_
  refine lv_istore (lv' := [(5, .int (0 : Int32)), (4, .int l2), (3, .int l1), (0, .ref h_F), (1, .int l1), (2, .int l2)]) hx hb dX1_meeting_6 hl (by decide) rfl (fun ls hl => ?_)
  refine lv_iconst (v := (0 : Int32)) hx hb dX1_meeting_8 (by decide) ?_
  refine lv_istore (lv' := [(6, .int (0 : Int32)), (5, .int (0 : Int32)), (4, .int l2), (3, .int l1), (0, .ref h_F), (1, .int l1), (2, .int l2)]) hx hb dX1_meeting_9 hl (by decide) rfl (fun ls hl => ?_)
  obtain ⟨n_11, hw⟩ := hw
  have hk_11_85 : ∀ (l3_h11 : Int32) (l4_h11 : Int32) (l5_h11 : Int32) (l6_h11 : Int32) (H : Heap) (locs : List Loc) (ls : Array Slot), va_P (dC, dI) vwCl [(h_F, .inr (1, [.ref a_F_members, .ref a_F_lowest, .ref a_F_nextMember, .int (fo_trees F), .int (fo_latest F), .ref a_F_above, .ref a_F_joined])), (a_F_above, .inl (cI, 250, .inl (fo_above F))), (a_F_joined, .inl (cI, 250, .inl (fo_joined F)))] H → va_D A [(h_F, .inr (1, [.ref a_F_members, .ref a_F_lowest, .ref a_F_nextMember, .int (fo_trees F), .int (fo_latest F), .ref a_F_above, .ref a_F_joined])), (a_F_above, .inl (cI, 250, .inl (fo_above F))), (a_F_joined, .inl (cI, 250, .inl (fo_joined F)))] → va_S A s.heap H locs → lv_has ls 8 [(0, .ref h_F), (1, .int l1), (2, .int l2), (3, .int l3_h11), (4, .int l4_h11), (5, .int l5_h11), (6, .int l6_h11)] → (K_X1_meeting_11_85 post) l3_h11 l4_h11 l5_h11 l6_h11 → G H locs (F0 m 85 ls []) := by
    intro l3_h11 l4_h11 l5_h11 l6_h11 H locs ls hP hD hS hl hw
    unfold K_X1_meeting_11_85 at hw
    refine gI _ _ _ ?_
    refine lv_iload hx hb dX1_meeting_85 (lv_at hl 5 rfl) ?_
    exact W.iret (v := l5_h11) hx hb hr (fun t ht hW => ⟨⟨l5_h11, (), rfl, hw, by rw [ht]; exact hP, va_K.moved hW.alike hK, hD⟩, hS.F ht⟩) hS.2.2 dX1_meeting_87
  have hL_11 : ∀ (n : Nat) (l3_h11 : Int32) (l4_h11 : Int32) (l5_h11 : Int32) (l6_h11 : Int32) (H : Heap) (locs : List Loc) (ls : Array Slot), va_P (dC, dI) vwCl [(h_F, .inr (1, [.ref a_F_members, .ref a_F_lowest, .ref a_F_nextMember, .int (fo_trees F), .int (fo_latest F), .ref a_F_above, .ref a_F_joined])), (a_F_above, .inl (cI, 250, .inl (fo_above F))), (a_F_joined, .inl (cI, 250, .inl (fo_joined F)))] H → va_D A [(h_F, .inr (1, [.ref a_F_members, .ref a_F_lowest, .ref a_F_nextMember, .int (fo_trees F), .int (fo_latest F), .ref a_F_above, .ref a_F_joined])), (a_F_above, .inl (cI, 250, .inl (fo_above F))), (a_F_joined, .inl (cI, 250, .inl (fo_joined F)))] → va_S A s.heap H locs → lv_has ls 8 [(0, .ref h_F), (1, .int l1), (2, .int l2), (3, .int l3_h11), (4, .int l4_h11), (5, .int l5_h11), (6, .int l6_h11)] → wl4 (B_X1_meeting_11 F post (K_X1_meeting_11_85 post)) n l3_h11 l4_h11 l5_h11 l6_h11 → G H locs (F0 m 11 ls []) := by
    intro n
    induction n with
    | zero =>
      intro l3_h11 l4_h11 l5_h11 l6_h11 H locs ls hP hD hS hl hw
      exact hw.elim
    | succ n_11 ih_11 =>
      intro l3_h11 l4_h11 l5_h11 l6_h11 H locs ls hP hD hS hl hw
      have hw : B_X1_meeting_11 F post (K_X1_meeting_11_85 post) (wl4 (B_X1_meeting_11 F post (K_X1_meeting_11_85 post)) n_11) l3_h11 l4_h11 l5_h11 l6_h11 := hw
      unfold B_X1_meeting_11 at hw
      refine gI _ _ _ ?_
      refine lv_iload hx hb dX1_meeting_11 (lv_at hl 6 rfl) ?_
      refine lv_sipush (v := (500 : Int32)) hx hb dX1_meeting_13 (by decide) ?_
      refine lv_icmp_ge (tgt := 85) hx hb dX1_meeting_16 (by decide) (fun c_1 => ?_) (fun c_1 => ?_)
      · have hw := hw.1 c_1
        exact gE _ _ _ (hk_11_85 l3_h11 l4_h11 l5_h11 l6_h11 H locs ls hP hD hS (lv_sub hl [0, 1, 2, 3, 4, 5, 6] rfl) hw)
      · have hw := hw.2 c_1
        refine lv_iload_n hx hb dX1_meeting_19 rfl (lv_at hl 3 rfl) ?_
        refine lv_iload hx hb dX1_meeting_20 (lv_at hl 4 rfl) ?_
        refine lv_icmp_eq (tgt := 85) hx hb dX1_meeting_22 (by decide) (fun c_2 => ?_) (fun c_2 => ?_)
        · have hw := hw.1 c_2
          exact gE _ _ _ (hk_11_85 l3_h11 l4_h11 l5_h11 l6_h11 H locs ls hP hD hS (lv_sub hl [0, 1, 2, 3, 4, 5, 6] rfl) hw)
        · have hw := hw.2 c_2
          refine lv_aload_n hx hb dX1_meeting_25 rfl (lv_at hl 0 rfl) ?_
          refine va_get (D := (dC, dI)) (ci := 1) (v := .ref a_F_joined) (C := RX1) (T := TX1) (N := 7) hx hb hts in_X1 hown hK hP 0 rfl rfl 6 (by decide) lk_24 (fun _ h9 => h9) rfl dX1_meeting_26 ?_
          refine lv_iload_n hx hb dX1_meeting_29 rfl (lv_at hl 3 rfl) ?_
          obtain ⟨hi_3, hw⟩ := hw
          refine va_iald hx hb hK hP 2 0 rfl rfl hi_3 dX1_meeting_30 ?_
          refine lv_aload_n hx hb dX1_meeting_31 rfl (lv_at hl 0 rfl) ?_
          refine va_get (D := (dC, dI)) (ci := 1) (v := .ref a_F_joined) (C := RX1) (T := TX1) (N := 7) hx hb hts in_X1 hown hK hP 0 rfl rfl 6 (by decide) lk_24 (fun _ h9 => h9) rfl dX1_meeting_32 ?_
          refine lv_iload hx hb dX1_meeting_35 (lv_at hl 4 rfl) ?_
          obtain ⟨hi_4, hw⟩ := hw
          refine va_iald hx hb hK hP 2 0 rfl rfl hi_4 dX1_meeting_37 ?_
          refine lv_icmp_le (tgt := 51) hx hb dX1_meeting_38 (by decide) (fun c_5 => ?_) (fun c_5 => ?_)
          · have hw := hw.1 c_5
            refine lv_aload_n hx hb dX1_meeting_51 rfl (lv_at hl 0 rfl) ?_
            refine va_get (D := (dC, dI)) (ci := 1) (v := .ref a_F_joined) (C := RX1) (T := TX1) (N := 7) hx hb hts in_X1 hown hK hP 0 rfl rfl 6 (by decide) lk_24 (fun _ h9 => h9) rfl dX1_meeting_52 ?_
            refine lv_iload_n hx hb dX1_meeting_55 rfl (lv_at hl 3 rfl) ?_
            refine va_iald hx hb hK hP 2 0 rfl rfl hi_3 dX1_meeting_56 ?_
            refine lv_ldc (v := (1000000 : Int32)) hx hb hown lk_27 dX1_meeting_57 ?_
            refine lv_icmp_ne (tgt := 64) hx hb dX1_meeting_59 (by decide) (fun c_6 => ?_) (fun c_6 => ?_)
            · have hw := hw.2 c_6
              refine lv_aload_n hx hb dX1_meeting_64 rfl (lv_at hl 0 rfl) ?_
              refine va_get (D := (dC, dI)) (ci := 1) (v := .ref a_F_joined) (C := RX1) (T := TX1) (N := 7) hx hb hts in_X1 hown hK hP 0 rfl rfl 6 (by decide) lk_24 (fun _ h9 => h9) rfl dX1_meeting_65 ?_
              refine lv_iload_n hx hb dX1_meeting_68 rfl (lv_at hl 3 rfl) ?_
              refine va_iald hx hb hK hP 2 0 rfl rfl hi_3 dX1_meeting_69 ?_
              refine lv_topi (fun x_7 ex_7 => ?_)
              have hw := hw x_7 ex_7
              refine lv_istore (lv' := [(5, .int x_7), (0, .ref h_F), (1, .int l1), (2, .int l2), (3, .int l3_h11), (4, .int l4_h11), (6, .int l6_h11)]) hx hb dX1_meeting_70 hl (by decide) rfl (fun ls hl => ?_)
              refine lv_aload_n hx hb dX1_meeting_72 rfl (lv_at hl 1 rfl) ?_
              refine va_get (D := (dC, dI)) (ci := 1) (v := .ref a_F_above) (C := RX1) (T := TX1) (N := 7) hx hb hts in_X1 hown hK hP 0 rfl rfl 5 (by decide) lk_21 (fun _ h9 => h9) rfl dX1_meeting_73 ?_
              refine lv_iload_n hx hb dX1_meeting_76 rfl (lv_at hl 4 rfl) ?_
              refine va_iald hx hb hK hP 1 0 rfl rfl hi_3 dX1_meeting_77 ?_
              refine lv_topi (fun x_8 ex_8 => ?_)
              have hw := hw x_8 ex_8
              refine lv_istore_n (lv' := [(3, .int x_8), (5, .int x_7), (0, .ref h_F), (1, .int l1), (2, .int l2), (4, .int l4_h11), (6, .int l6_h11)]) hx hb dX1_meeting_78 rfl hl (by decide) rfl (fun ls hl => ?_)
              refine lv_iinc (v := (l6_h11 + 1)) (lv' := [(6, .int (l6_h11 + 1)), (3, .int x_8), (5, .int x_7), (0, .ref h_F), (1, .int l1), (2, .int l2), (4, .int l4_h11)]) hx hb dX1_meeting_79 hl (k := 6) rfl rfl (by decide) rfl (fun ls hl => ?_)
              refine lv_goto (tgt := 11) hx hb dX1_meeting_82 (by decide) ?_
              exact gE _ _ _ (ih_11 x_8 l4_h11 x_7 (l6_h11 + 1) H locs ls hP hD hS (lv_sub hl [3, 4, 5, 1, 6, 2, 0] rfl) hw)
            · have hw := hw.1 c_6
              refine lv_iconst (v := (-1 : Int32)) hx hb dX1_meeting_62 (by decide) ?_
              exact W.iret (v := (-1 : Int32)) hx hb hr (fun t ht hW => ⟨⟨(-1 : Int32), (), rfl, hw, by rw [ht]; exact hP, va_K.moved hW.alike hK, hD⟩, hS.F ht⟩) hS.2.2 dX1_meeting_63
          · have hw := hw.2 c_5
            refine lv_iload_n hx hb dX1_meeting_41 rfl (lv_at hl 3 rfl) ?_
            refine lv_istore (lv' := [(7, .int l3_h11), (0, .ref h_F), (1, .int l1), (2, .int l2), (3, .int l3_h11), (4, .int l4_h11), (5, .int l5_h11), (6, .int l6_h11)]) hx hb dX1_meeting_42 hl (by decide) rfl (fun ls hl => ?_)
            refine lv_iload hx hb dX1_meeting_44 (lv_at hl 5 rfl) ?_
            refine lv_istore_n (lv' := [(3, .int l4_h11), (7, .int l3_h11), (0, .ref h_F), (1, .int l1), (2, .int l2), (4, .int l4_h11), (5, .int l5_h11), (6, .int l6_h11)]) hx hb dX1_meeting_46 rfl hl (by decide) rfl (fun ls hl => ?_)
            refine lv_iload hx hb dX1_meeting_47 (lv_at hl 1 rfl) ?_
            refine lv_istore (lv' := [(4, .int l3_h11), (3, .int l4_h11), (7, .int l3_h11), (0, .ref h_F), (1, .int l1), (2, .int l2), (5, .int l5_h11), (6, .int l6_h11)]) hx hb dX1_meeting_49 hl (by decide) rfl (fun ls hl => ?_)
            refine lv_aload_n hx hb dX1_meeting_51 rfl (lv_at hl 3 rfl) ?_
            refine va_get (D := (dC, dI)) (ci := 1) (v := .ref a_F_joined) (C := RX1) (T := TX1) (N := 7) hx hb hts in_X1 hown hK hP 0 rfl rfl 6 (by decide) lk_24 (fun _ h9 => h9) rfl dX1_meeting_52 ?_
            refine lv_iload_n hx hb dX1_meeting_55 rfl (lv_at hl 1 rfl) ?_
            refine va_iald hx hb hK hP 2 0 rfl rfl hi_4 dX1_meeting_56 ?_
            refine lv_ldc (v := (1000000 : Int32)) hx hb hown lk_27 dX1_meeting_57 ?_
            refine lv_icmp_ne (tgt := 64) hx hb dX1_meeting_59 (by decide) (fun c_9 => ?_) (fun c_9 => ?_)
            · have hw := hw.2 c_9
              refine lv_aload_n hx hb dX1_meeting_64 rfl (lv_at hl 3 rfl) ?_
              refine va_get (D := (dC, dI)) (ci := 1) (v := .ref a_F_joined) (C := RX1) (T := TX1) (N := 7) hx hb hts in_X1 hown hK hP 0 rfl rfl 6 (by decide) lk_24 (fun _ h9 => h9) rfl dX1_meeting_65 ?_
              refine lv_iload_n hx hb dX1_meeting_68 rfl (lv_at hl 1 rfl) ?_
              refine va_iald hx hb hK hP 2 0 rfl rfl hi_4 dX1_meeting_69 ?_
              refine lv_topi (fun x_10 ex_10 => ?_)
              have hw := hw x_10 ex_10
              refine lv_istore (lv' := [(5, .int x_10), (4, .int l3_h11), (3, .int l4_h11), (7, .int l3_h11), (0, .ref h_F), (1, .int l1), (2, .int l2), (6, .int l6_h11)]) hx hb dX1_meeting_70 hl (by decide) rfl (fun ls hl => ?_)
              refine lv_aload_n hx hb dX1_meeting_72 rfl (lv_at hl 4 rfl) ?_
              refine va_get (D := (dC, dI)) (ci := 1) (v := .ref a_F_above) (C := RX1) (T := TX1) (N := 7) hx hb hts in_X1 hown hK hP 0 rfl rfl 5 (by decide) lk_21 (fun _ h9 => h9) rfl dX1_meeting_73 ?_
              refine lv_iload_n hx hb dX1_meeting_76 rfl (lv_at hl 2 rfl) ?_
              refine va_iald hx hb hK hP 1 0 rfl rfl hi_4 dX1_meeting_77 ?_
              refine lv_topi (fun x_11 ex_11 => ?_)
              have hw := hw x_11 ex_11
              refine lv_istore_n (lv' := [(3, .int x_11), (5, .int x_10), (4, .int l3_h11), (7, .int l3_h11), (0, .ref h_F), (1, .int l1), (2, .int l2), (6, .int l6_h11)]) hx hb dX1_meeting_78 rfl hl (by decide) rfl (fun ls hl => ?_)
              refine lv_iinc (v := (l6_h11 + 1)) (lv' := [(6, .int (l6_h11 + 1)), (3, .int x_11), (5, .int x_10), (4, .int l3_h11), (7, .int l3_h11), (0, .ref h_F), (1, .int l1), (2, .int l2)]) hx hb dX1_meeting_79 hl (k := 7) rfl rfl (by decide) rfl (fun ls hl => ?_)
              refine lv_goto (tgt := 11) hx hb dX1_meeting_82 (by decide) ?_
              exact gE _ _ _ (ih_11 x_11 l3_h11 x_10 (l6_h11 + 1) H locs ls hP hD hS (lv_sub hl [5, 6, 7, 1, 3, 2, 0] rfl) hw)
            · have hw := hw.1 c_9
              refine lv_iconst (v := (-1 : Int32)) hx hb dX1_meeting_62 (by decide) ?_
              exact W.iret (v := (-1 : Int32)) hx hb hr (fun t ht hW => ⟨⟨(-1 : Int32), (), rfl, hw, by rw [ht]; exact hP, va_K.moved hW.alike hK, hD⟩, hS.F ht⟩) hS.2.2 dX1_meeting_63
  exact gE _ _ _ (hL_11 n_11 l1 l2 (0 : Int32) (0 : Int32) H locs ls hP hD hS (lv_sub hl [4, 5, 6, 3, 2, 1, 0] rfl) hw)
def wp_X1_join (F : FoS) (l1 : Int32) (l2 : Int32) (l3 : Int32) (post : FoS → Prop) : Prop := (vp_in l1 250 ∧ (vp_in l2 250 ∧ (∀ x_3 : Int32, x_3 = ((fo_nextMember F) l1.toNatClampNeg) → (post (fo_s_joined (fo_s_above (fo_s_latest (fo_s_trees (fo_s_nextMember (fo_s_lowest (fo_s_members F (upd (fo_members F) l2.toNatClampNeg (((fo_members F) l2.toNatClampNeg) + ((fo_members F) l1.toNatClampNeg)))) (upd (fo_lowest F) l2.toNatClampNeg (if ((fo_lowest F) l1.toNatClampNeg) < ((fo_lowest F) l2.toNatClampNeg) then ((fo_lowest F) l1.toNatClampNeg) else ((fo_lowest F) l2.toNatClampNeg)))) (upd (upd (fo_nextMember F) l1.toNatClampNeg ((fo_nextMember F) l2.toNatClampNeg)) l2.toNatClampNeg x_3)) ((fo_trees F) - (1 : Int32))) l3) (upd (fo_above F) l1.toNatClampNeg l2)) (upd (fo_joined F) l1.toNatClampNeg l3))))))
set_option maxHeartbeats 4000000 in
set_option maxRecDepth 100000 in
theorem c_X1_join (l : Launch) (dC : Nat → ClassId) (dI : Nat → Nat → Nat) (cI cZ : ClassId) (sz : Nat) (h_F a_F_members a_F_lowest a_F_nextMember a_F_above a_F_joined : Nat) (F : FoS) (l1 : Int32) (l2 : Int32) (l3 : Int32) (post : FoS → Prop) : Met l yX1_join wsX1_join ({ frames := 1, cells := 0, slots := 0, locals := 21 }) (va_Pc [.ref h_F, .int l1, .int l2, .int l3] (fun U => U.heap.size = sz ∧ va_P (dC, dI) vwCl [(h_F, .inr (1, [.ref a_F_members, .ref a_F_lowest, .ref a_F_nextMember, .int (fo_trees F), .int (fo_latest F), .ref a_F_above, .ref a_F_joined])), (a_F_members, .inl (cI, 250, .inl (fo_members F))), (a_F_lowest, .inl (cI, 250, .inl (fo_lowest F))), (a_F_nextMember, .inl (cI, 250, .inl (fo_nextMember F))), (a_F_above, .inl (cI, 250, .inl (fo_above F))), (a_F_joined, .inl (cI, 250, .inl (fo_joined F)))] U.heap ∧ va_K (dC, dI) vwCl [(cI, .int), (cZ, .boolean)] U ∧ va_D (fun _ => True) [(h_F, .inr (1, [.ref a_F_members, .ref a_F_lowest, .ref a_F_nextMember, .int (fo_trees F), .int (fo_latest F), .ref a_F_above, .ref a_F_joined])), (a_F_members, .inl (cI, 250, .inl (fo_members F))), (a_F_lowest, .inl (cI, 250, .inl (fo_lowest F))), (a_F_nextMember, .inl (cI, 250, .inl (fo_nextMember F))), (a_F_above, .inl (cI, 250, .inl (fo_above F))), (a_F_joined, .inl (cI, 250, .inl (fo_joined F)))] ∧ wp_X1_join F l1 l2 l3 post)) (va_Qv (fun (u : FoS) => post u) (fun (u : FoS) (t : State) => va_P (dC, dI) vwCl [(h_F, .inr (1, [.ref a_F_members, .ref a_F_lowest, .ref a_F_nextMember, .int (fo_trees u), .int (fo_latest u), .ref a_F_above, .ref a_F_joined])), (a_F_members, .inl (cI, 250, .inl (fo_members u))), (a_F_lowest, .inl (cI, 250, .inl (fo_lowest u))), (a_F_nextMember, .inl (cI, 250, .inl (fo_nextMember u))), (a_F_above, .inl (cI, 250, .inl (fo_above u))), (a_F_joined, .inl (cI, 250, .inl (fo_joined u)))] t.heap ∧ va_K (dC, dI) vwCl [(cI, .int), (cZ, .boolean)] t ∧ va_D (va_A [(h_F, .inr (1, [.ref a_F_members, .ref a_F_lowest, .ref a_F_nextMember, .int (fo_trees F), .int (fo_latest F), .ref a_F_above, .ref a_F_joined])), (a_F_members, .inl (cI, 250, .inl (fo_members F))), (a_F_lowest, .inl (cI, 250, .inl (fo_lowest F))), (a_F_nextMember, .inl (cI, 250, .inl (fo_nextMember F))), (a_F_above, .inl (cI, 250, .inl (fo_above F))), (a_F_joined, .inl (cI, 250, .inl (fo_joined F)))] sz) [(h_F, .inr (1, [.ref a_F_members, .ref a_F_lowest, .ref a_F_nextMember, .int (fo_trees u), .int (fo_latest u), .ref a_F_above, .ref a_F_joined])), (a_F_members, .inl (cI, 250, .inl (fo_members u))), (a_F_lowest, .inl (cI, 250, .inl (fo_lowest u))), (a_F_nextMember, .inl (cI, 250, .inl (fo_nextMember u))), (a_F_above, .inl (cI, 250, .inl (fo_above u))), (a_F_joined, .inl (cI, 250, .inl (fo_joined u)))]) (va_A [(h_F, .inr (1, [.ref a_F_members, .ref a_F_lowest, .ref a_F_nextMember, .int (fo_trees F), .int (fo_latest F), .ref a_F_above, .ref a_F_joined])), (a_F_members, .inl (cI, 250, .inl (fo_members F))), (a_F_lowest, .inl (cI, 250, .inl (fo_lowest F))), (a_F_nextMember, .inl (cI, 250, .inl (fo_nextMember F))), (a_F_above, .inl (cI, 250, .inl (fo_above F))), (a_F_joined, .inl (cI, 250, .inl (fo_joined F)))] sz)) 0 0 (va_A [(h_F, .inr (1, [.ref a_F_members, .ref a_F_lowest, .ref a_F_nextMember, .int (fo_trees F), .int (fo_latest F), .ref a_F_above, .ref a_F_joined])), (a_F_members, .inl (cI, 250, .inl (fo_members F))), (a_F_lowest, .inl (cI, 250, .inl (fo_lowest F))), (a_F_nextMember, .inl (cI, 250, .inl (fo_nextMember F))), (a_F_above, .inl (cI, 250, .inl (fo_above F))), (a_F_joined, .inl (cI, 250, .inl (fo_joined F)))] sz) := by
  refine Met.ofW (cc := cX1_join) (maxL := 5) (ret := none) (by decide) rfl ?_
  intro p e s m args below meth c s₁ B hml hv
  obtain ⟨rfl, hsz, hP, hK, hD0, hw⟩ := hv
  have hx := B.exec
  have hb := B.bytes
  have hr := B.returns
  have hts := atoms_spec (ws := wsX1_join) B.pre
  have hown : s.vm.findClass RX1 = some m.cls := findClass_of_methodNamed B.named
  have hlocks := B.notSynchronized
  subst hsz
  have hD := hD0.self (sz := s.heap.size)
  generalize hAe : va_A [(h_F, .inr (1, [.ref a_F_members, .ref a_F_lowest, .ref a_F_nextMember, .int (fo_trees F), .int (fo_latest F), .ref a_F_above, .ref a_F_joined])), (a_F_members, .inl (cI, 250, .inl (fo_members F))), (a_F_lowest, .inl (cI, 250, .inl (fo_lowest F))), (a_F_nextMember, .inl (cI, 250, .inl (fo_nextMember F))), (a_F_above, .inl (cI, 250, .inl (fo_above F))), (a_F_joined, .inl (cI, 250, .inl (fo_joined F)))] s.heap.size = A at hD ⊢
  have hA : ∀ q : Nat, s.heap.size ≤ q → A q := fun q h => by rw [← hAe]; exact Or.inr h
  have hS : va_S A s.heap s.heap [] := va_S.rf
  have hP : va_P (dC, dI) vwCl [(h_F, .inr (1, [.ref a_F_members, .ref a_F_lowest, .ref a_F_nextMember, .int (fo_trees F), .int (fo_latest F), .ref a_F_above, .ref a_F_joined])), (a_F_members, .inl (cI, 250, .inl (fo_members F))), (a_F_lowest, .inl (cI, 250, .inl (fo_lowest F))), (a_F_nextMember, .inl (cI, 250, .inl (fo_nextMember F))), (a_F_above, .inl (cI, 250, .inl (fo_above F))), (a_F_joined, .inl (cI, 250, .inl (fo_joined F)))] s.heap := hP
  have hl := lv_entry ([.ref h_F, .int l1, .int l2, .int l3]) (n := 5) (Nat.le_of_ble_eq_true rfl)
  rw [lg_entry_eq]
  generalize (lg_sl ([.ref h_F, .int l1, .int l2, .int l3]) ++ List.replicate (5 - (lg_sl ([.ref h_F, .int l1, .int l2, .int l3])).length) Slot.unset).toArray = ls at hl ⊢
  have hl : lv_has ls 5 [(0, .ref h_F), (1, .int l1), (2, .int l2), (3, .int l3)] := hl
  have in_X1 : ∀ w ∈ wsX10, w ∈ wsX1_join := by decide +kernel
  have lk_21 := hts (.fieldLink RX1 21 "SameTerms$Forest" "above" "[I") (by decide +kernel)
  have lk_24 := hts (.fieldLink RX1 24 "SameTerms$Forest" "joined" "[I") (by decide +kernel)
  have lk_9 := hts (.fieldLink RX1 9 "SameTerms$Forest" "members" "[I") (by decide +kernel)
  have lk_15 := hts (.fieldLink RX1 15 "SameTerms$Forest" "lowest" "[I") (by decide +kernel)
  have lk_18 := hts (.fieldLink RX1 18 "SameTerms$Forest" "nextMember" "[I") (by decide +kernel)
  have lk_28 := hts (.fieldLink RX1 28 "SameTerms$Forest" "trees" "I") (by decide +kernel)
  have lk_32 := hts (.fieldLink RX1 32 "SameTerms$Forest" "latest" "I") (by decide +kernel)
  unfold wp_X1_join at hw
  refine w_goal (fun G gI gE => gI _ _ _ ?_)
  obtain ⟨H, hH⟩ : ∃ H : Heap, H = s.heap := ⟨_, rfl⟩
  obtain ⟨locs, hlocs⟩ : ∃ z : List Loc, z = [] := ⟨_, rfl⟩
  rw [← hH] at hP
  have hS : va_S A s.heap H locs := by rw [hH, hlocs]; exact hS
  refine w_start hH hlocs ?_
  refine lv_aload_n hx hb dX1_join_0 rfl (lv_at hl 0 rfl) ?_
  refine va_get (D := (dC, dI)) (ci := 1) (v := .ref a_F_above) (C := RX1) (T := TX1) (N := 7) hx hb hts in_X1 hown hK hP 0 rfl rfl 5 (by decide) lk_21 (fun _ h9 => h9) rfl dX1_join_1 ?_
  refine lv_iload_n hx hb dX1_join_4 rfl (lv_at hl 1 rfl) ?_
  refine lv_iload_n hx hb dX1_join_5 rfl (lv_at hl 2 rfl) ?_
  obtain ⟨hi_1, hw⟩ := hw
  refine va_iast hx hb hK hP hD hS 4 0 rfl rfl hi_1 dX1_join_6 (fun H locs hP hD hS => ?_)
  have hP : va_P (dC, dI) vwCl [(h_F, .inr (1, [.ref a_F_members, .ref a_F_lowest, .ref a_F_nextMember, .int (fo_trees F), .int (fo_latest F), .ref a_F_above, .ref a_F_joined])), (a_F_members, .inl (cI, 250, .inl (fo_members F))), (a_F_lowest, .inl (cI, 250, .inl (fo_lowest F))), (a_F_nextMember, .inl (cI, 250, .inl (fo_nextMember F))), (a_F_above, .inl (cI, 250, .inl (upd (fo_above F) l1.toNatClampNeg l2))), (a_F_joined, .inl (cI, 250, .inl (fo_joined F)))] H := hP
  have hD : va_D A [(h_F, .inr (1, [.ref a_F_members, .ref a_F_lowest, .ref a_F_nextMember, .int (fo_trees F), .int (fo_latest F), .ref a_F_above, .ref a_F_joined])), (a_F_members, .inl (cI, 250, .inl (fo_members F))), (a_F_lowest, .inl (cI, 250, .inl (fo_lowest F))), (a_F_nextMember, .inl (cI, 250, .inl (fo_nextMember F))), (a_F_above, .inl (cI, 250, .inl (upd (fo_above F) l1.toNatClampNeg l2))), (a_F_joined, .inl (cI, 250, .inl (fo_joined F)))] := hD
  refine lv_aload_n hx hb dX1_join_7 rfl (lv_at hl 0 rfl) ?_
  refine va_get (D := (dC, dI)) (ci := 1) (v := .ref a_F_joined) (C := RX1) (T := TX1) (N := 7) hx hb hts in_X1 hown hK hP 0 rfl rfl 6 (by decide) lk_24 (fun _ h9 => h9) rfl dX1_join_8 ?_
  refine lv_iload_n hx hb dX1_join_11 rfl (lv_at hl 1 rfl) ?_
  refine lv_iload_n hx hb dX1_join_12 rfl (lv_at hl 3 rfl) ?_
  refine va_iast hx hb hK hP hD hS 5 0 rfl rfl hi_1 dX1_join_13 (fun H locs hP hD hS => ?_)
  have hP : va_P (dC, dI) vwCl [(h_F, .inr (1, [.ref a_F_members, .ref a_F_lowest, .ref a_F_nextMember, .int (fo_trees F), .int (fo_latest F), .ref a_F_above, .ref a_F_joined])), (a_F_members, .inl (cI, 250, .inl (fo_members F))), (a_F_lowest, .inl (cI, 250, .inl (fo_lowest F))), (a_F_nextMember, .inl (cI, 250, .inl (fo_nextMember F))), (a_F_above, .inl (cI, 250, .inl (upd (fo_above F) l1.toNatClampNeg l2))), (a_F_joined, .inl (cI, 250, .inl (upd (fo_joined F) l1.toNatClampNeg l3)))] H := hP
  have hD : va_D A [(h_F, .inr (1, [.ref a_F_members, .ref a_F_lowest, .ref a_F_nextMember, .int (fo_trees F), .int (fo_latest F), .ref a_F_above, .ref a_F_joined])), (a_F_members, .inl (cI, 250, .inl (fo_members F))), (a_F_lowest, .inl (cI, 250, .inl (fo_lowest F))), (a_F_nextMember, .inl (cI, 250, .inl (fo_nextMember F))), (a_F_above, .inl (cI, 250, .inl (upd (fo_above F) l1.toNatClampNeg l2))), (a_F_joined, .inl (cI, 250, .inl (upd (fo_joined F) l1.toNatClampNeg l3)))] := hD
  refine lv_aload_n hx hb dX1_join_14 rfl (lv_at hl 0 rfl) ?_
  refine va_get (D := (dC, dI)) (ci := 1) (v := .ref a_F_members) (C := RX1) (T := TX1) (N := 7) hx hb hts in_X1 hown hK hP 0 rfl rfl 0 (by decide) lk_9 (fun _ h9 => h9) rfl dX1_join_15 ?_
  refine lv_iload_n hx hb dX1_join_18 rfl (lv_at hl 2 rfl) ?_
  refine lv_dup2_11 hx hb dX1_join_19 rfl rfl ?_
  obtain ⟨hi_2, hw⟩ := hw
  refine va_iald hx hb hK hP 1 0 rfl rfl hi_2 dX1_join_20 ?_
  refine lv_aload_n hx hb dX1_join_21 rfl (lv_at hl 0 rfl) ?_
  refine va_get (D := (dC, dI)) (ci := 1) (v := .ref a_F_members) (C := RX1) (T := TX1) (N := 7) hx hb hts in_X1 hown hK hP 0 rfl rfl 0 (by decide) lk_9 (fun _ h9 => h9) rfl dX1_join_22 ?_
  refine lv_iload_n hx hb dX1_join_25 rfl (lv_at hl 1 rfl) ?_
  refine va_iald hx hb hK hP 1 0 rfl rfl hi_1 dX1_join_26 ?_
  refine lv_iadd hx hb dX1_join_27 ?_
  refine va_iast hx hb hK hP hD hS 1 0 rfl rfl hi_2 dX1_join_28 (fun H locs hP hD hS => ?_)
  have hP : va_P (dC, dI) vwCl [(h_F, .inr (1, [.ref a_F_members, .ref a_F_lowest, .ref a_F_nextMember, .int (fo_trees F), .int (fo_latest F), .ref a_F_above, .ref a_F_joined])), (a_F_members, .inl (cI, 250, .inl (upd (fo_members F) l2.toNatClampNeg (((fo_members F) l2.toNatClampNeg) + ((fo_members F) l1.toNatClampNeg))))), (a_F_lowest, .inl (cI, 250, .inl (fo_lowest F))), (a_F_nextMember, .inl (cI, 250, .inl (fo_nextMember F))), (a_F_above, .inl (cI, 250, .inl (upd (fo_above F) l1.toNatClampNeg l2))), (a_F_joined, .inl (cI, 250, .inl (upd (fo_joined F) l1.toNatClampNeg l3)))] H := hP
  have hD : va_D A [(h_F, .inr (1, [.ref a_F_members, .ref a_F_lowest, .ref a_F_nextMember, .int (fo_trees F), .int (fo_latest F), .ref a_F_above, .ref a_F_joined])), (a_F_members, .inl (cI, 250, .inl (upd (fo_members F) l2.toNatClampNeg (((fo_members F) l2.toNatClampNeg) + ((fo_members F) l1.toNatClampNeg))))), (a_F_lowest, .inl (cI, 250, .inl (fo_lowest F))), (a_F_nextMember, .inl (cI, 250, .inl (fo_nextMember F))), (a_F_above, .inl (cI, 250, .inl (upd (fo_above F) l1.toNatClampNeg l2))), (a_F_joined, .inl (cI, 250, .inl (upd (fo_joined F) l1.toNatClampNeg l3)))] := hD
  refine lv_aload_n hx hb dX1_join_29 rfl (lv_at hl 0 rfl) ?_
  refine va_get (D := (dC, dI)) (ci := 1) (v := .ref a_F_lowest) (C := RX1) (T := TX1) (N := 7) hx hb hts in_X1 hown hK hP 0 rfl rfl 1 (by decide) lk_15 (fun _ h9 => h9) rfl dX1_join_30 ?_
  refine lv_iload_n hx hb dX1_join_33 rfl (lv_at hl 2 rfl) ?_
  refine lv_aload_n hx hb dX1_join_34 rfl (lv_at hl 0 rfl) ?_
  refine va_get (D := (dC, dI)) (ci := 1) (v := .ref a_F_lowest) (C := RX1) (T := TX1) (N := 7) hx hb hts in_X1 hown hK hP 0 rfl rfl 1 (by decide) lk_15 (fun _ h9 => h9) rfl dX1_join_35 ?_
  refine lv_iload_n hx hb dX1_join_38 rfl (lv_at hl 2 rfl) ?_
  refine va_iald hx hb hK hP 2 0 rfl rfl hi_2 dX1_join_39 ?_
  refine lv_aload_n hx hb dX1_join_40 rfl (lv_at hl 0 rfl) ?_
  refine va_get (D := (dC, dI)) (ci := 1) (v := .ref a_F_lowest) (C := RX1) (T := TX1) (N := 7) hx hb hts in_X1 hown hK hP 0 rfl rfl 1 (by decide) lk_15 (fun _ h9 => h9) rfl dX1_join_41 ?_
  refine lv_iload_n hx hb dX1_join_44 rfl (lv_at hl 1 rfl) ?_
  refine va_iald hx hb hK hP 2 0 rfl rfl hi_1 dX1_join_45 ?_
  refine va_mmin hx hb (hml.trans hl.1.symm) hown (hts (.methodLink RX1 35 Lib.Math.min.name) (by decide +kernel)) (hts (.static Lib.Math.min.name) (by decide +kernel)) (hts (.initialized "java/lang/Math") (by decide +kernel)) (hts (.code Lib.Math.min.name Lib.Math.min.code 2 (some .int)) (by decide +kernel)) (Nat.le_of_ble_eq_true rfl) (Nat.le_of_ble_eq_true rfl) (Nat.zero_le _) (Nat.zero_le _) dX1_join_46 ?_
  refine va_iast hx hb hK hP hD hS 2 0 rfl rfl hi_2 dX1_join_49 (fun H locs hP hD hS => ?_)
  have hP : va_P (dC, dI) vwCl [(h_F, .inr (1, [.ref a_F_members, .ref a_F_lowest, .ref a_F_nextMember, .int (fo_trees F), .int (fo_latest F), .ref a_F_above, .ref a_F_joined])), (a_F_members, .inl (cI, 250, .inl (upd (fo_members F) l2.toNatClampNeg (((fo_members F) l2.toNatClampNeg) + ((fo_members F) l1.toNatClampNeg))))), (a_F_lowest, .inl (cI, 250, .inl (upd (fo_lowest F) l2.toNatClampNeg (if ((fo_lowest F) l1.toNatClampNeg) < ((fo_lowest F) l2.toNatClampNeg) then ((fo_lowest F) l1.toNatClampNeg) else ((fo_lowest F) l2.toNatClampNeg))))), (a_F_nextMember, .inl (cI, 250, .inl (fo_nextMember F))), (a_F_above, .inl (cI, 250, .inl (upd (fo_above F) l1.toNatClampNeg l2))), (a_F_joined, .inl (cI, 250, .inl (upd (fo_joined F) l1.toNatClampNeg l3)))] H := hP
  have hD : va_D A [(h_F, .inr (1, [.ref a_F_members, .ref a_F_lowest, .ref a_F_nextMember, .int (fo_trees F), .int (fo_latest F), .ref a_F_above, .ref a_F_joined])), (a_F_members, .inl (cI, 250, .inl (upd (fo_members F) l2.toNatClampNeg (((fo_members F) l2.toNatClampNeg) + ((fo_members F) l1.toNatClampNeg))))), (a_F_lowest, .inl (cI, 250, .inl (upd (fo_lowest F) l2.toNatClampNeg (if ((fo_lowest F) l1.toNatClampNeg) < ((fo_lowest F) l2.toNatClampNeg) then ((fo_lowest F) l1.toNatClampNeg) else ((fo_lowest F) l2.toNatClampNeg))))), (a_F_nextMember, .inl (cI, 250, .inl (fo_nextMember F))), (a_F_above, .inl (cI, 250, .inl (upd (fo_above F) l1.toNatClampNeg l2))), (a_F_joined, .inl (cI, 250, .inl (upd (fo_joined F) l1.toNatClampNeg l3)))] := hD
  refine lv_aload_n hx hb dX1_join_50 rfl (lv_at hl 0 rfl) ?_
  refine va_get (D := (dC, dI)) (ci := 1) (v := .ref a_F_nextMember) (C := RX1) (T := TX1) (N := 7) hx hb hts in_X1 hown hK hP 0 rfl rfl 2 (by decide) lk_18 (fun _ h9 => h9) rfl dX1_join_51 ?_
  refine lv_iload_n hx hb dX1_join_54 rfl (lv_at hl 1 rfl) ?_
  refine va_iald hx hb hK hP 3 0 rfl rfl hi_1 dX1_join_55 ?_
  refine lv_topi (fun x_3 ex_3 => ?_)
  have hw := hw x_3 ex_3
  refine lv_istore (lv' := [(4, .int x_3), (0, .ref h_F), (1, .int l1), (2, .int l2), (3, .int l3)]) hx hb dX1_join_56 hl (by decide) rfl (fun ls hl => ?_)
  refine lv_aload_n hx hb dX1_join_58 rfl (lv_at hl 1 rfl) ?_
  refine va_get (D := (dC, dI)) (ci := 1) (v := .ref a_F_nextMember) (C := RX1) (T := TX1) (N := 7) hx hb hts in_X1 hown hK hP 0 rfl rfl 2 (by decide) lk_18 (fun _ h9 => h9) rfl dX1_join_59 ?_
  refine lv_iload_n hx hb dX1_join_62 rfl (lv_at hl 2 rfl) ?_
  refine lv_aload_n hx hb dX1_join_63 rfl (lv_at hl 1 rfl) ?_
  refine va_get (D := (dC, dI)) (ci := 1) (v := .ref a_F_nextMember) (C := RX1) (T := TX1) (N := 7) hx hb hts in_X1 hown hK hP 0 rfl rfl 2 (by decide) lk_18 (fun _ h9 => h9) rfl dX1_join_64 ?_
  refine lv_iload_n hx hb dX1_join_67 rfl (lv_at hl 3 rfl) ?_
  refine va_iald hx hb hK hP 3 0 rfl rfl hi_2 dX1_join_68 ?_
  refine va_iast hx hb hK hP hD hS 3 0 rfl rfl hi_1 dX1_join_69 (fun H locs hP hD hS => ?_)
  have hP : va_P (dC, dI) vwCl [(h_F, .inr (1, [.ref a_F_members, .ref a_F_lowest, .ref a_F_nextMember, .int (fo_trees F), .int (fo_latest F), .ref a_F_above, .ref a_F_joined])), (a_F_members, .inl (cI, 250, .inl (upd (fo_members F) l2.toNatClampNeg (((fo_members F) l2.toNatClampNeg) + ((fo_members F) l1.toNatClampNeg))))), (a_F_lowest, .inl (cI, 250, .inl (upd (fo_lowest F) l2.toNatClampNeg (if ((fo_lowest F) l1.toNatClampNeg) < ((fo_lowest F) l2.toNatClampNeg) then ((fo_lowest F) l1.toNatClampNeg) else ((fo_lowest F) l2.toNatClampNeg))))), (a_F_nextMember, .inl (cI, 250, .inl (upd (fo_nextMember F) l1.toNatClampNeg ((fo_nextMember F) l2.toNatClampNeg)))), (a_F_above, .inl (cI, 250, .inl (upd (fo_above F) l1.toNatClampNeg l2))), (a_F_joined, .inl (cI, 250, .inl (upd (fo_joined F) l1.toNatClampNeg l3)))] H := hP
  have hD : va_D A [(h_F, .inr (1, [.ref a_F_members, .ref a_F_lowest, .ref a_F_nextMember, .int (fo_trees F), .int (fo_latest F), .ref a_F_above, .ref a_F_joined])), (a_F_members, .inl (cI, 250, .inl (upd (fo_members F) l2.toNatClampNeg (((fo_members F) l2.toNatClampNeg) + ((fo_members F) l1.toNatClampNeg))))), (a_F_lowest, .inl (cI, 250, .inl (upd (fo_lowest F) l2.toNatClampNeg (if ((fo_lowest F) l1.toNatClampNeg) < ((fo_lowest F) l2.toNatClampNeg) then ((fo_lowest F) l1.toNatClampNeg) else ((fo_lowest F) l2.toNatClampNeg))))), (a_F_nextMember, .inl (cI, 250, .inl (upd (fo_nextMember F) l1.toNatClampNeg ((fo_nextMember F) l2.toNatClampNeg)))), (a_F_above, .inl (cI, 250, .inl (upd (fo_above F) l1.toNatClampNeg l2))), (a_F_joined, .inl (cI, 250, .inl (upd (fo_joined F) l1.toNatClampNeg l3)))] := hD
  refine lv_aload_n hx hb dX1_join_70 rfl (lv_at hl 1 rfl) ?_
  refine va_get (D := (dC, dI)) (ci := 1) (v := .ref a_F_nextMember) (C := RX1) (T := TX1) (N := 7) hx hb hts in_X1 hown hK hP 0 rfl rfl 2 (by decide) lk_18 (fun _ h9 => h9) rfl dX1_join_71 ?_
  refine lv_iload_n hx hb dX1_join_74 rfl (lv_at hl 3 rfl) ?_
  refine lv_iload hx hb dX1_join_75 (lv_at hl 0 rfl) ?_
  refine va_iast hx hb hK hP hD hS 3 0 rfl rfl hi_2 dX1_join_77 (fun H locs hP hD hS => ?_)
  have hP : va_P (dC, dI) vwCl [(h_F, .inr (1, [.ref a_F_members, .ref a_F_lowest, .ref a_F_nextMember, .int (fo_trees F), .int (fo_latest F), .ref a_F_above, .ref a_F_joined])), (a_F_members, .inl (cI, 250, .inl (upd (fo_members F) l2.toNatClampNeg (((fo_members F) l2.toNatClampNeg) + ((fo_members F) l1.toNatClampNeg))))), (a_F_lowest, .inl (cI, 250, .inl (upd (fo_lowest F) l2.toNatClampNeg (if ((fo_lowest F) l1.toNatClampNeg) < ((fo_lowest F) l2.toNatClampNeg) then ((fo_lowest F) l1.toNatClampNeg) else ((fo_lowest F) l2.toNatClampNeg))))), (a_F_nextMember, .inl (cI, 250, .inl (upd (upd (fo_nextMember F) l1.toNatClampNeg ((fo_nextMember F) l2.toNatClampNeg)) l2.toNatClampNeg x_3))), (a_F_above, .inl (cI, 250, .inl (upd (fo_above F) l1.toNatClampNeg l2))), (a_F_joined, .inl (cI, 250, .inl (upd (fo_joined F) l1.toNatClampNeg l3)))] H := hP
  have hD : va_D A [(h_F, .inr (1, [.ref a_F_members, .ref a_F_lowest, .ref a_F_nextMember, .int (fo_trees F), .int (fo_latest F), .ref a_F_above, .ref a_F_joined])), (a_F_members, .inl (cI, 250, .inl (upd (fo_members F) l2.toNatClampNeg (((fo_members F) l2.toNatClampNeg) + ((fo_members F) l1.toNatClampNeg))))), (a_F_lowest, .inl (cI, 250, .inl (upd (fo_lowest F) l2.toNatClampNeg (if ((fo_lowest F) l1.toNatClampNeg) < ((fo_lowest F) l2.toNatClampNeg) then ((fo_lowest F) l1.toNatClampNeg) else ((fo_lowest F) l2.toNatClampNeg))))), (a_F_nextMember, .inl (cI, 250, .inl (upd (upd (fo_nextMember F) l1.toNatClampNeg ((fo_nextMember F) l2.toNatClampNeg)) l2.toNatClampNeg x_3))), (a_F_above, .inl (cI, 250, .inl (upd (fo_above F) l1.toNatClampNeg l2))), (a_F_joined, .inl (cI, 250, .inl (upd (fo_joined F) l1.toNatClampNeg l3)))] := hD
  refine lv_aload_n hx hb dX1_join_78 rfl (lv_at hl 1 rfl) ?_
  refine lv_dup hx hb dX1_join_79 rfl ?_
  refine va_get (D := (dC, dI)) (ci := 1) (v := .int (fo_trees F)) (C := RX1) (T := TX1) (N := 7) hx hb hts in_X1 hown hK hP 0 rfl rfl 3 (by decide) lk_28 (fun _ h9 => h9) rfl dX1_join_80 ?_
  refine lv_iconst (v := (1 : Int32)) hx hb dX1_join_83 (by decide) ?_
  refine lv_isub hx hb dX1_join_84 ?_
  refine va_put (D := (dC, dI)) (ci := 1) (v := .int ((fo_trees F) - (1 : Int32))) (ty := .int) (C := RX1) (T := TX1) (N := 7) hx hb hts in_X1 tyX1 tyX1_ok nmX1 hown hK hP hD hS 0 rfl rfl 3 (by decide) lk_28 (fun _ h9 => h9) rfl (by decide +kernel) rfl rfl (Nat.le_of_ble_eq_true rfl) dX1_join_85 (fun H locs hP hD hS => ?_)
  have hP : va_P (dC, dI) vwCl [(h_F, .inr (1, [.ref a_F_members, .ref a_F_lowest, .ref a_F_nextMember, .int ((fo_trees F) - (1 : Int32)), .int (fo_latest F), .ref a_F_above, .ref a_F_joined])), (a_F_members, .inl (cI, 250, .inl (upd (fo_members F) l2.toNatClampNeg (((fo_members F) l2.toNatClampNeg) + ((fo_members F) l1.toNatClampNeg))))), (a_F_lowest, .inl (cI, 250, .inl (upd (fo_lowest F) l2.toNatClampNeg (if ((fo_lowest F) l1.toNatClampNeg) < ((fo_lowest F) l2.toNatClampNeg) then ((fo_lowest F) l1.toNatClampNeg) else ((fo_lowest F) l2.toNatClampNeg))))), (a_F_nextMember, .inl (cI, 250, .inl (upd (upd (fo_nextMember F) l1.toNatClampNeg ((fo_nextMember F) l2.toNatClampNeg)) l2.toNatClampNeg x_3))), (a_F_above, .inl (cI, 250, .inl (upd (fo_above F) l1.toNatClampNeg l2))), (a_F_joined, .inl (cI, 250, .inl (upd (fo_joined F) l1.toNatClampNeg l3)))] H := hP
  have hD : va_D A [(h_F, .inr (1, [.ref a_F_members, .ref a_F_lowest, .ref a_F_nextMember, .int ((fo_trees F) - (1 : Int32)), .int (fo_latest F), .ref a_F_above, .ref a_F_joined])), (a_F_members, .inl (cI, 250, .inl (upd (fo_members F) l2.toNatClampNeg (((fo_members F) l2.toNatClampNeg) + ((fo_members F) l1.toNatClampNeg))))), (a_F_lowest, .inl (cI, 250, .inl (upd (fo_lowest F) l2.toNatClampNeg (if ((fo_lowest F) l1.toNatClampNeg) < ((fo_lowest F) l2.toNatClampNeg) then ((fo_lowest F) l1.toNatClampNeg) else ((fo_lowest F) l2.toNatClampNeg))))), (a_F_nextMember, .inl (cI, 250, .inl (upd (upd (fo_nextMember F) l1.toNatClampNeg ((fo_nextMember F) l2.toNatClampNeg)) l2.toNatClampNeg x_3))), (a_F_above, .inl (cI, 250, .inl (upd (fo_above F) l1.toNatClampNeg l2))), (a_F_joined, .inl (cI, 250, .inl (upd (fo_joined F) l1.toNatClampNeg l3)))] := hD
  refine lv_aload_n hx hb dX1_join_88 rfl (lv_at hl 1 rfl) ?_
  refine lv_iload_n hx hb dX1_join_89 rfl (lv_at hl 4 rfl) ?_
  refine va_put (D := (dC, dI)) (ci := 1) (v := .int l3) (ty := .int) (C := RX1) (T := TX1) (N := 7) hx hb hts in_X1 tyX1 tyX1_ok nmX1 hown hK hP hD hS 0 rfl rfl 4 (by decide) lk_32 (fun _ h9 => h9) rfl (by decide +kernel) rfl rfl (Nat.le_of_ble_eq_true rfl) dX1_join_90 (fun H locs hP hD hS => ?_)
  have hP : va_P (dC, dI) vwCl [(h_F, .inr (1, [.ref a_F_members, .ref a_F_lowest, .ref a_F_nextMember, .int ((fo_trees F) - (1 : Int32)), .int l3, .ref a_F_above, .ref a_F_joined])), (a_F_members, .inl (cI, 250, .inl (upd (fo_members F) l2.toNatClampNeg (((fo_members F) l2.toNatClampNeg) + ((fo_members F) l1.toNatClampNeg))))), (a_F_lowest, .inl (cI, 250, .inl (upd (fo_lowest F) l2.toNatClampNeg (if ((fo_lowest F) l1.toNatClampNeg) < ((fo_lowest F) l2.toNatClampNeg) then ((fo_lowest F) l1.toNatClampNeg) else ((fo_lowest F) l2.toNatClampNeg))))), (a_F_nextMember, .inl (cI, 250, .inl (upd (upd (fo_nextMember F) l1.toNatClampNeg ((fo_nextMember F) l2.toNatClampNeg)) l2.toNatClampNeg x_3))), (a_F_above, .inl (cI, 250, .inl (upd (fo_above F) l1.toNatClampNeg l2))), (a_F_joined, .inl (cI, 250, .inl (upd (fo_joined F) l1.toNatClampNeg l3)))] H := hP
  have hD : va_D A [(h_F, .inr (1, [.ref a_F_members, .ref a_F_lowest, .ref a_F_nextMember, .int ((fo_trees F) - (1 : Int32)), .int l3, .ref a_F_above, .ref a_F_joined])), (a_F_members, .inl (cI, 250, .inl (upd (fo_members F) l2.toNatClampNeg (((fo_members F) l2.toNatClampNeg) + ((fo_members F) l1.toNatClampNeg))))), (a_F_lowest, .inl (cI, 250, .inl (upd (fo_lowest F) l2.toNatClampNeg (if ((fo_lowest F) l1.toNatClampNeg) < ((fo_lowest F) l2.toNatClampNeg) then ((fo_lowest F) l1.toNatClampNeg) else ((fo_lowest F) l2.toNatClampNeg))))), (a_F_nextMember, .inl (cI, 250, .inl (upd (upd (fo_nextMember F) l1.toNatClampNeg ((fo_nextMember F) l2.toNatClampNeg)) l2.toNatClampNeg x_3))), (a_F_above, .inl (cI, 250, .inl (upd (fo_above F) l1.toNatClampNeg l2))), (a_F_joined, .inl (cI, 250, .inl (upd (fo_joined F) l1.toNatClampNeg l3)))] := hD
  exact W.vret hx hb hr (fun t ht hW => ⟨⟨(fo_s_joined (fo_s_above (fo_s_latest (fo_s_trees (fo_s_nextMember (fo_s_lowest (fo_s_members F (upd (fo_members F) l2.toNatClampNeg (((fo_members F) l2.toNatClampNeg) + ((fo_members F) l1.toNatClampNeg)))) (upd (fo_lowest F) l2.toNatClampNeg (if ((fo_lowest F) l1.toNatClampNeg) < ((fo_lowest F) l2.toNatClampNeg) then ((fo_lowest F) l1.toNatClampNeg) else ((fo_lowest F) l2.toNatClampNeg)))) (upd (upd (fo_nextMember F) l1.toNatClampNeg ((fo_nextMember F) l2.toNatClampNeg)) l2.toNatClampNeg x_3)) ((fo_trees F) - (1 : Int32))) l3) (upd (fo_above F) l1.toNatClampNeg l2)) (upd (fo_joined F) l1.toNatClampNeg l3)), rfl, hw, by rw [ht]; exact hP, va_K.moved hW.alike hK, hD⟩, hS.F ht⟩) hS.2.2 dX1_join_93

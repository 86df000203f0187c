/-! PURE: the law, over all calls -/
theorem Sys_0 : Sys sa_0 te_0 pa_0 pa_0 fo_0 fo_0 mo_0 := by
  have nl : ∀ j : Nat, ¬ j < 0 := Nat.not_lt_zero
  refine ⟨0, fun _ => none, 0, fun _ => 0, fun _ => 0, 0, fun _ => 0, fun _ => 0, 0, fun _ => 0, ⟨rfl, by omega, fun j hj => absurd hj (nl j), fun j hj => absurd hj (nl j), fun j _ _ hj => absurd hj (nl j), fun i _ _ hi => absurd hi (nl i), fun p hp => absurd hp (nl p), fun h _ hh => absurd hh (nl h)⟩, ⟨rfl, by omega, fun j hj => absurd hj (nl j)⟩, ⟨rfl, by omega, fun j hj => absurd hj (nl j)⟩, ⟨rfl, by omega, fun j hj => absurd hj (nl j), rfl, by omega, fun j hj => absurd hj (nl j), rfl, by omega, fun j hj => absurd hj (nl j), rfl, by omega, fun j hj => absurd hj (nl j), fun j _ _ hj => absurd hj (nl j), fun j _ _ hj => absurd hj (nl j)⟩, ⟨fun z => absurd rfl z, fun z => absurd rfl z, fun z => absurd rfl z⟩⟩
theorem law_true {L : Nat} (hL : L ≤ 2560) (xs : Nat → Int32) : wp_L_law L xs sa_0 te_0 pa_0 pa_0 cl_0 fo_0 fo_0 fo_0 mo_0 (fun r => r = 1) := by
  unfold wp_L_law
  refine wl10_ind (fun l3 S T Q D _ E R _ M => (∃ i, i ≤ 2570 ∧ l3 = nI i) ∧ Sys S T Q D E R M) (fun l3 _ _ _ _ _ _ _ _ _ => 2600 - l3.toNatClampNeg) ?_ _ _ _ _ _ _ _ _ _ _ ⟨⟨0, by omega, rfl⟩, Sys_0⟩
  rintro kb l3 S T Q D C E R Y M ⟨⟨i, hi, rfl⟩, hS⟩ hk
  have e1 : (Int32.ofNat L - 5).toInt = (L : Int) - 5 := pk_sub_toInt (a := L) (b := 5) (by omega) (by decide)
  unfold B_L_law_18
  refine ⟨fun _ => rfl, fun hlt => ?_⟩
  have hi5 : i + 5 ≤ L := by
    rw [Int32.lt_iff_toInt_lt, e1, nI_toInt (by omega)] at hlt
    omega
  have q1 : vp_in (nI i + 1) L := by rw [show nI i + 1 = nI (i + 1) from nI_add i 1]; exact vp_in_nI (by omega) (by omega)
  have q2 : vp_in (nI i + 2) L := by rw [show nI i + 2 = nI (i + 2) from nI_add i 2]; exact vp_in_nI (by omega) (by omega)
  have q3 : vp_in (nI i + 3) L := by rw [show nI i + 3 = nI (i + 3) from nI_add i 3]; exact vp_in_nI (by omega) (by omega)
  have q4 : vp_in (nI i + 4) L := by rw [show nI i + 4 = nI (i + 4) from nI_add i 4]; exact vp_in_nI (by omega) (by omega)
  have hk2 : ∀ S T Q D C E R Y M, Sys S T Q D E R M → kb (nI i + 5) S T Q D C E R Y M := by
    intro S T Q D C E R Y M h
    have e5 : nI i + 5 = nI (i + 5) := nI_add i 5
    rw [e5]
    refine hk _ _ _ _ _ _ _ _ _ _ ⟨⟨i + 5, by omega, rfl⟩, h⟩ ?_
    show 2600 - (nI (i + 5)).toNatClampNeg < 2600 - (nI i).toNatClampNeg
    rw [nI_clamp (by omega), nI_clamp (by omega)]
    omega
  refine ⟨vp_in_nI (by omega) (by omega), fun _ => ?_, fun _ => ?_, fun _ => ⟨q1, q2, ?_⟩, fun _ => ⟨q1, q2, ?_⟩, fun _ => ⟨q1, ?_⟩, fun _ => ⟨q1, q2, ?_⟩, fun _ => ?_, fun _ => ⟨q1, q2, ?_⟩, fun _ => ⟨q1, ?_⟩, fun _ => ⟨q1, ?_⟩, fun _ => ⟨q1, q2, ?_⟩, fun _ => ⟨q1, q2, ?_⟩, fun _ => ⟨q1, q2, q3, ?_⟩, fun _ => ⟨q1, q2, q3, q4, ?_⟩, fun _ => ⟨q1, q2, ?_⟩, fun _ => ⟨q1, ?_⟩, fun _ => hk2 _ _ _ _ _ _ _ _ _ hS⟩
  · exact L_clear hS (K := fun S T Q D M => kb (nI i + 5) S T Q D C E R Y M) (fun _ _ _ _ _ h => hk2 _ _ _ _ _ _ _ _ _ h)
  · exact L_constant hS (K := fun S T M => kb (nI i + 5) S T Q D C E R Y M) (fun _ _ _ h => hk2 _ _ _ _ _ _ _ _ _ h)
  · exact L_apply hS (K := fun S T M => kb (nI i + 5) S T Q D C E R Y M) (fun _ _ _ h => hk2 _ _ _ _ _ _ _ _ _ h)
  · exact L_equate hS (K := fun S Q M => kb (nI i + 5) S T Q D C E R Y M) (fun _ _ _ h => hk2 _ _ _ _ _ _ _ _ _ h)
  · exact L_back hS (K := fun S Q M => kb (nI i + 5) S T Q D C E R Y M) (fun _ _ _ h => hk2 _ _ _ _ _ _ _ _ _ h)
  · exact L_differ hS (K := fun D M => kb (nI i + 5) S T Q D C E R Y M) (fun _ _ h => hk2 _ _ _ _ _ _ _ _ _ h)
  · exact L_clash hS (K := fun S C E M => kb (nI i + 5) S T Q D C E R Y M) (fun _ _ _ _ h => hk2 _ _ _ _ _ _ _ _ _ h)
  · exact L_same hS (K := fun S C E M => kb (nI i + 5) S T Q D C E R Y M) (fun _ _ _ _ h => hk2 _ _ _ _ _ _ _ _ _ h)
  · exact L_least hS (K := fun S C E M => kb (nI i + 5) S T Q D C E R Y M) (fun _ _ _ _ h => hk2 _ _ _ _ _ _ _ _ _ h)
  · exact L_size hS (K := fun S C E M => kb (nI i + 5) S T Q D C E R Y M) (fun _ _ _ _ h => hk2 _ _ _ _ _ _ _ _ _ h)
  · exact L_since hS (K := fun S C E M => kb (nI i + 5) S T Q D C E R Y M) (fun _ _ _ _ h => hk2 _ _ _ _ _ _ _ _ _ h)
  · exact L_round hS (K := fun S C R M => kb (nI i + 5) S T Q D C E R Y M) (fun _ _ _ _ h => hk2 _ _ _ _ _ _ _ _ _ h)
  · exact L_why hS (K := fun S C E Y M => kb (nI i + 5) S T Q D C E R Y M) (fun _ _ _ _ _ h => hk2 _ _ _ _ _ _ _ _ _ h)
  · exact L_gives hS (K := fun C Y M => kb (nI i + 5) S T Q D C E R Y M) (fun _ _ _ h => hk2 _ _ _ _ _ _ _ _ _ h)
  · exact L_told hS (K := kb (nI i + 5) S T Q D C E R Y M) (hk2 _ _ _ _ _ _ _ _ _ hS)
  · exact L_count hS (K := fun S C E R M => kb (nI i + 5) S T Q D C E R Y M) (fun _ _ _ _ _ h => hk2 _ _ _ _ _ _ _ _ _ h)

/-! PURE: the reference: close, closeBy, beginRounds, nextRound -/
def okp (tm : Nat → Option (Nat × Nat)) (lab0 lab : Nat → Nat) (x y : Nat) : Prop := ∀ a b c d, tm x = some (a, b) → tm y = some (c, d) → lab0 a = lab0 c → lab0 b = lab0 d → lab x = lab y
section MC
variable {N : Nat} {tm : Nat → Option (Nat × Nat)} {n : Nat} {l r : Nat → Nat} {dn : Nat} {dl dr : Nat → Nat} {An : Nat} {ap : Nat → Nat} {M : MoS} {lab : Nat → Nat} {B0 : Rel}
/-- the labels lab tell no more than X, and all that lab0 told -/
def lbS (N : Nat) (X : Rel) (lab0 lab : Nat → Nat) : Prop := (∀ u w, u < N → w < N → lab u = lab w → X u w) ∧ ∀ u w, lab0 u = lab0 w → lab u = lab w
theorem lbS_merge {X : Rel} (hX : eqv X) {lab0 lab' : Nat → Nat} (h : lbS N X lab0 lab) {a b : Nat} (ha : a < N) (hb : b < N) (hab : X a b) (hlab : ∀ u w, lab' u = lab' w ↔ lab u = lab w ∨ (lab u = lab a ∧ lab w = lab b) ∨ (lab u = lab b ∧ lab w = lab a)) : lbS N X lab0 lab' := by
  refine ⟨fun u w hu hw z => ?_, fun u w z => (hlab u w).mpr (Or.inl (h.2 u w z))⟩
  rcases (hlab u w).mp z with q | ⟨q1, q2⟩ | ⟨q1, q2⟩
  · exact h.1 u w hu hw q
  · exact hX.2.2 _ _ _ (h.1 u a hu ha q1) (hX.2.2 _ _ _ hab (hX.2.1 _ _ (h.1 w b hw hb q2)))
  · exact hX.2.2 _ _ _ (h.1 u b hu hb q1) (hX.2.2 _ _ _ (hX.2.1 _ _ hab) (hX.2.1 _ _ (h.1 w a hw ha q2)))
theorem lab_full {lab : Nat → Nat} (hcg : ∀ i j, i < An → j < i → okp tm lab lab (ap i) (ap j)) (hM : moA N tm n l r dn dl dr An ap M) (hbase : ∀ u w, B0 u w → u < N ∧ w < N ∧ lab u = lab w) {u w : Nat} (h : Gv N tm B0 u w) (hu : u < N) (hw : w < N) : lab u = lab w := by
  have q := h (fun a b => a = b ∨ (a < N ∧ b < N ∧ lab a = lab b)) ⟨fun a => Or.inl rfl, fun a b hab => ?_, fun a b c hab hbc => ?_⟩ (fun a b hab => Or.inr (hbase a b hab)) (fun x y hxy => ?_)
  · rcases q with q | q
    · rw [q]
    · exact q.2.2
  · rcases hab with q | q
    · exact Or.inl q.symm
    · exact Or.inr ⟨q.2.1, q.1, q.2.2.symm⟩
  · rcases hab with q | q
    · rw [q]; exact hbc
    · rcases hbc with z | z
      · rw [← z]; exact Or.inr q
      · exact Or.inr ⟨q.1, z.2.1, q.2.2.trans z.2.2⟩
  · obtain ⟨a, b, c, d, h1, h2, h3, h4, h5, h6⟩ := hxy
    have e1 : lab a = lab c := by
      rcases h5 with q | q
      · rw [q]
      · exact q.2.2
    have e2 : lab b = lab d := by
      rcases h6 with q | q
      · rw [q]
      · exact q.2.2
    obtain ⟨i, hi, ei⟩ := hM.2.2.2.2.2.2.2.2.2.2.2.2.1 x a b h1 h3
    obtain ⟨j, hj, ej⟩ := hM.2.2.2.2.2.2.2.2.2.2.2.2.1 y c d h2 h4
    refine Or.inr ⟨h1, h2, ?_⟩
    by_cases c1 : j < i
    · have z := hcg i j hi c1 a b c d (by rw [ei]; exact h3) (by rw [ej]; exact h4) e1 e2
      rw [ei, ej] at z; exact z
    · by_cases c2 : i < j
      · have z := hcg j i hj c2 c d a b (by rw [ej]; exact h4) (by rw [ei]; exact h3) e1.symm e2.symm
        rw [ei, ej] at z; exact z.symm
      · have c3 : i = j := by omega
        rw [← ei, ← ej, c3]
theorem close_ok (hM : moA N tm n l r dn dl dr An ap M) (hL : lbA N M lab) (h1 : ∀ u w, u < N → w < N → lab u = lab w → Gv N tm B0 u w) (h2 : ∀ u w, B0 u w → u < N ∧ w < N ∧ lab u = lab w) {post : MoS → Prop}
    (hp : ∀ f lab', lbA N (mo_s_label M f) lab' → (∀ u w, u < N → w < N → (lab' u = lab' w ↔ Gv N tm B0 u w)) → post (mo_s_label M f)) : wp_X5_close M post := by
  have hN := hM.2.1
  have hAn : An ≤ N := hM.2.2.2.2.2.2.2.2.2.2.1
  unfold wp_X5_close
  refine wl2_ind (fun l1 M1 => ∃ f lab1, M1 = mo_s_label M f ∧ lbA N M1 lab1 ∧ lbS N (Gv N tm B0) lab lab1 ∧ ((l1 = 0 ∧ ∀ i j, i < An → j < i → okp tm lab1 lab1 (ap i) (ap j)) ∨ l1 = 1)) (fun l1 M1 => 2 * lbc N M1 + (if l1 = 0 then 0 else 1)) ?_ _ _ ⟨mo_label M, lab, rfl, hL, ⟨h1, fun _ _ z => z⟩, Or.inr rfl⟩
  rintro kb l1 M1 ⟨f, lab1, rfl, hL1, hS1, hmore⟩ hk
  unfold B_X5_close_2
  rcases hmore with ⟨rfl, hcg⟩ | rfl
  · refine ⟨fun _ => ?_, fun z => absurd rfl z⟩
    refine hp f lab1 hL1 (fun u w hu hw => ⟨hS1.1 u w hu hw, fun z => lab_full hcg hM (fun a b hab => ?_) z hu hw⟩)
    have q := h2 a b hab
    exact ⟨q.1, q.2.1, hS1.2 a b q.2.2⟩
  · refine ⟨fun z => absurd z (by decide), fun _ => ?_⟩
    -- one pass
    obtain ⟨c0, hc0⟩ : ∃ c0, c0 = lbc N (mo_s_label M f) := ⟨_, rfl⟩
    refine wl3_ind (fun l1 l2 M2 => ∃ i f2 lab2, l2 = nI i ∧ i ≤ An ∧ M2 = mo_s_label M f2 ∧ lbA N M2 lab2 ∧ lbS N (Gv N tm B0) lab lab2 ∧ lbc N M2 ≤ c0 ∧ ((l1 = 0 ∧ ∀ i' j', i' < i → j' < i' → okp tm lab2 lab2 (ap i') (ap j')) ∨ (l1 = 1 ∧ lbc N M2 < c0))) (fun _ l2 _ => 250 - l2.toNatClampNeg) ?_ _ _ _ ⟨0, f, lab1, rfl, Nat.zero_le _, rfl, hL1, hS1, by omega, Or.inl ⟨rfl, fun i' j' hi' => absurd hi' (Nat.not_lt_zero _)⟩⟩
    rintro kb2 l1 l2 M2 ⟨i, f2, lab2, rfl, hi, rfl, hL2, hS2, hc2, hmore2⟩ hk2
    unfold B_X5_close_10
    show (mo_applied M ≤ nI i → _) ∧ (¬ mo_applied M ≤ nI i → _)
    rw [hM.2.2.2.2.2.2.2.2.2.1]
    refine pk_le An i (fun hle => ?_) (fun hlt => ?_)
    · have e1 : i = An := by omega
      subst e1
      refine hk _ _ ⟨f2, lab2, rfl, hL2, hS2, ?_⟩ ?_
      · rcases hmore2 with ⟨z1, z2⟩ | ⟨z1, z2⟩
        · exact Or.inl ⟨z1, z2⟩
        · exact Or.inr z1
      · rcases hmore2 with ⟨z1, z2⟩ | ⟨z1, z2⟩
        · rw [z1]
          show 2 * lbc N (mo_s_label M f2) + 0 < 2 * lbc N (mo_s_label M f) + 1
          omega
        · rw [z1]
          show 2 * lbc N (mo_s_label M f2) + 1 < 2 * lbc N (mo_s_label M f) + 1
          omega
    · refine ⟨pk_in i 250 (by omega), ?_⟩
      rw [nI_clamp (show i < 2 ^ 31 by omega)]
      obtain ⟨t1, t2, a, b, t3⟩ := hM.2.2.2.2.2.2.2.2.2.2.2.1 i hlt
      have htab := hM.2.2.2.2.2.2.2.2.2.2.2.2.2 (ap i) a b t2 t3
      intro x4 e4
      have e4 : x4 = nI (ap i) := e4.trans t1
      subst e4
      refine wl3_ind (fun l1 l4 M3 => ∃ j f3 lab3, l4 = nI j ∧ j ≤ i ∧ M3 = mo_s_label M f3 ∧ lbA N M3 lab3 ∧ lbS N (Gv N tm B0) lab lab3 ∧ lbc N M3 ≤ c0 ∧ ((l1 = 0 ∧ (∀ i' j', i' < i → j' < i' → okp tm lab3 lab3 (ap i') (ap j')) ∧ ∀ j', j' < j → okp tm lab3 lab3 (ap i) (ap j')) ∨ (l1 = 1 ∧ lbc N M3 < c0))) (fun _ l4 _ => 250 - l4.toNatClampNeg) ?_ _ _ _ ⟨0, f2, lab2, rfl, Nat.zero_le _, rfl, hL2, hS2, hc2, ?_⟩
      · rintro kb3 l1 l4 M3 ⟨j, f3, lab3, rfl, hj, rfl, hL3, hS3, hc3, hmore3⟩ hk3
        unfold B_X5_close_28
        refine pk_le i j (fun hle => ?_) (fun hlt3 => ?_)
        · have e1 : j = i := by omega
          subst e1
          refine hk2 _ _ _ ⟨j + 1, f3, lab3, nI_1 j, by omega, rfl, hL3, hS3, hc3, ?_⟩ ?_
          · rcases hmore3 with ⟨z1, z2, z3⟩ | z
            · refine Or.inl ⟨z1, fun i' j' hi' hj' => ?_⟩
              by_cases c : i' = j
              · rw [c]; exact z3 j' (by omega)
              · exact z2 i' j' (by omega) hj'
            · exact Or.inr z
          · rw [nI_1, nI_clamp (by omega), nI_clamp (by omega)]
            omega
        · have hm : 250 - (nI j + 1).toNatClampNeg < 250 - (nI j).toNatClampNeg := by
            rw [nI_1, nI_clamp (by omega), nI_clamp (by omega)]
            omega
          obtain ⟨u1, u2, c, d, u3⟩ := hM.2.2.2.2.2.2.2.2.2.2.2.1 j (by omega)
          have hucd := hM.2.2.2.2.2.2.2.2.2.2.2.2.2 (ap j) c d u2 u3
          have pass : okp tm lab3 lab3 (ap i) (ap j) → ∀ l1 : Int32, ((l1 = 0 ∧ (∀ i' j', i' < i → j' < i' → okp tm lab3 lab3 (ap i') (ap j')) ∧ ∀ j', j' < j → okp tm lab3 lab3 (ap i) (ap j')) ∨ (l1 = 1 ∧ lbc N (mo_s_label M f3) < c0)) → kb3 l1 (nI j + 1) (mo_s_label M f3) := by
            intro hok l1 hm3
            refine hk3 _ _ _ ⟨j + 1, f3, lab3, nI_1 j, by omega, rfl, hL3, hS3, hc3, ?_⟩ hm
            rcases hm3 with ⟨z1, z2, z3⟩ | z
            · refine Or.inl ⟨z1, z2, fun j' hj' => ?_⟩
              by_cases c : j' = j
              · rw [c]; exact hok
              · exact z3 j' (by omega)
            · exact Or.inr z
          refine ⟨pk_in j 250 (by omega), ?_⟩
          rw [nI_clamp (show j < 2 ^ 31 by omega)]
          intro x7 e7
          have e7 : x7 = nI (ap j) := e7.trans u1
          subst e7
          refine ⟨pk_in (ap i) 250 (by omega), pk_in (ap j) 250 (by omega), ?_⟩
          have ft : mo_first M (ap i) = nI a := by have := (hM.2.2.1 (ap i) t2).1; rw [t3] at this; exact this
          have st : mo_second M (ap i) = nI b := by have := (hM.2.2.1 (ap i) t2).2; rw [t3] at this; exact this
          have fu : mo_first M (ap j) = nI c := by have := (hM.2.2.1 (ap j) u2).1; rw [u3] at this; exact this
          have su : mo_second M (ap j) = nI d := by have := (hM.2.2.1 (ap j) u2).2; rw [u3] at this; exact this
          rw [nI_clamp (show ap i < 2 ^ 31 by omega), nI_clamp (show ap j < 2 ^ 31 by omega)]
          show (mo_label (mo_s_label M f3) (ap i) = mo_label (mo_s_label M f3) (ap j) → _) ∧ _
          rw [(hL3 (ap i) t2).1, (hL3 (ap j) u2).1]
          have b1 := (hL3 (ap i) t2).2.1
          have b2 := (hL3 (ap j) u2).2.1
          refine pk_eq (lab3 (ap i)) (lab3 (ap j)) (fun heq => pass (fun _ _ _ _ _ _ _ _ => heq) l1 hmore3) (fun hne => ?_)
          show vp_in (mo_first M (ap i)) 250 ∧ vp_in (mo_first M (ap j)) 250 ∧ ((mo_label (mo_s_label M f3) (mo_first M (ap i)).toNatClampNeg = mo_label (mo_s_label M f3) (mo_first M (ap j)).toNatClampNeg → vp_in (mo_second M (ap i)) 250 ∧ vp_in (mo_second M (ap j)) 250 ∧ ((mo_label (mo_s_label M f3) (mo_second M (ap i)).toNatClampNeg = mo_label (mo_s_label M f3) (mo_second M (ap j)).toNatClampNeg → _) ∧ (¬ mo_label (mo_s_label M f3) (mo_second M (ap i)).toNatClampNeg = mo_label (mo_s_label M f3) (mo_second M (ap j)).toNatClampNeg → _)) ) ∧ (¬ mo_label (mo_s_label M f3) (mo_first M (ap i)).toNatClampNeg = mo_label (mo_s_label M f3) (mo_first M (ap j)).toNatClampNeg → _))
          rw [ft, fu, st, su]
          refine ⟨pk_in a 250 (by omega), pk_in c 250 (by omega), ?_⟩
          rw [nI_clamp (show a < 2 ^ 31 by omega), nI_clamp (show c < 2 ^ 31 by omega), nI_clamp (show b < 2 ^ 31 by omega), nI_clamp (show d < 2 ^ 31 by omega)]
          rw [(hL3 a (by omega)).1, (hL3 c (by omega)).1, (hL3 b (by omega)).1, (hL3 d (by omega)).1]
          have ba := (hL3 a (by omega)).2.1
          have bb := (hL3 b (by omega)).2.1
          have bc := (hL3 c (by omega)).2.1
          have bd := (hL3 d (by omega)).2.1
          have nok : ¬ (lab3 a = lab3 c ∧ lab3 b = lab3 d) → okp tm lab3 lab3 (ap i) (ap j) := by
            intro hh a' b' c' d' q1 q2 q3 q4
            rw [t3] at q1; rw [u3] at q2
            cases q1; cases q2
            exact absurd ⟨q3, q4⟩ hh
          refine pk_eq (lab3 a) (lab3 c) (fun e1 => ?_) (fun e1 => pass (nok (fun z => e1 z.1)) l1 hmore3)
          refine ⟨pk_in b 250 (by omega), pk_in d 250 (by omega), ?_⟩
          refine pk_eq (lab3 b) (lab3 d) (fun e2 => ?_) (fun e2 => pass (nok (fun z => e2 z.2)) l1 hmore3)
          have hM3 : moA N tm n l r dn dl dr An ap (mo_s_label M f3) := hM
          refine merge_ok hM3 hL3 t2 u2 (fun z => absurd z hne) (fun f4 lab4 _ hL4 hrel hlt4 => ?_)
          refine ⟨fun z => absurd z (by decide), fun _ => ?_⟩
          refine hk3 _ _ _ ⟨j + 1, f4, lab4, nI_1 j, by omega, rfl, hL4, ?_, ?_, Or.inr ⟨rfl, ?_⟩⟩ hm
          · refine lbS_merge (Gv_eqv N tm B0) hS3 t2 u2 ?_ hrel
            exact Gv_cgr N tm B0 _ _ ⟨a, b, c, d, t2, u2, t3, u3, hS3.1 a c (by omega) (by omega) e1, hS3.1 b d (by omega) (by omega) e2⟩
          · have h9 : lbc N (mo_s_label M f4) < lbc N (mo_s_label M f3) := hlt4
            omega
          · have h9 : lbc N (mo_s_label M f4) < lbc N (mo_s_label M f3) := hlt4
            omega
      · rcases hmore2 with ⟨z1, z2⟩ | z
        · exact Or.inl ⟨z1, z2, fun j' hj' => absurd hj' (Nat.not_lt_zero _)⟩
        · exact Or.inr z
end MC

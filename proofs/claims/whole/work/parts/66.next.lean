/-! PURE: the reference: nextRound -/
section NR
variable {N : Nat} {tm : Nat → Option (Nat × Nat)} {n : Nat} {l r : Nat → Nat} {dn : Nat} {dl dr : Nat → Nat} {An : Nat} {ap : Nat → Nat} {M : MoS} {lab : Nat → Nat}
theorem nextRound_ok (hM : moA N tm n l r dn dl dr An ap M) (hL : lbA N M lab) {post : Int32 → MoS → Prop}
    (hp : ∀ v f g lab', lbA N (mo_s_label (mo_s_before M g) f) lab' → (∀ u w, u < N → w < N → (lab' u = lab' w ↔ Cl (fun u w => (u < N ∧ w < N ∧ lab u = lab w) ∨ cg N tm (eqT lab) u w) u w)) → ((v = 0 ∧ ∀ u w, lab' u = lab' w ↔ lab u = lab w) ∨ (v = 1 ∧ lbc N (mo_s_label (mo_s_before M g) f) < lbc N M)) → post v (mo_s_label (mo_s_before M g) f)) : wp_X5_nextRound M post := by
  have hN := hM.2.1
  have hAn : An ≤ N := hM.2.2.2.2.2.2.2.2.2.2.1
  unfold wp_X5_nextRound
  refine wl2_ind (fun l1 M1 => ∃ i g, l1 = nI i ∧ i ≤ N ∧ M1 = mo_s_before M g ∧ ∀ j, j < i → g j = nI (lab j)) (fun l1 _ => 250 - l1.toNatClampNeg) ?_ _ _ ⟨0, mo_before M, rfl, Nat.zero_le _, rfl, fun j hj => absurd hj (Nat.not_lt_zero _)⟩
  rintro kb l1 M1 ⟨i, g, rfl, hi, rfl, hg⟩ hk
  unfold B_X5_nextRound_2
  show (mo_terms M ≤ nI i → _) ∧ (¬ mo_terms M ≤ nI i → _)
  rw [hM.1]
  refine pk_le N i (fun hle => ?_) (fun hlt => ?_)
  · have e1 : i = N := by omega
    subst e1
    clear hk
    obtain ⟨X, hX⟩ : ∃ X : Rel, X = Cl (fun u w => (u < i ∧ w < i ∧ lab u = lab w) ∨ cg i tm (eqT lab) u w) := ⟨_, rfl⟩
    have hXE : eqv X := by rw [hX]; exact Cl_eqv _
    unfold K_X5_nextRound_2_28
    refine wl3_ind (fun l1 l2 M2 => ∃ k f2 lab2, l2 = nI k ∧ k ≤ An ∧ M2 = mo_s_label (mo_s_before M g) f2 ∧ lbA i M2 lab2 ∧ lbS i X lab lab2 ∧ (∀ i' j', i' < k → j' < i' → okp tm lab lab2 (ap i') (ap j')) ∧ ((l1 = 0 ∧ ∀ u w, lab2 u = lab2 w ↔ lab u = lab w) ∨ (l1 = 1 ∧ lbc i M2 < lbc i M)) ∧ lbc i M2 ≤ lbc i M) (fun _ l2 _ => 250 - l2.toNatClampNeg) ?_ _ _ _ ⟨0, mo_label M, lab, rfl, Nat.zero_le _, rfl, hL, ⟨fun u w hu hw z => by rw [hX]; exact Cl_sub (Or.inl ⟨hu, hw, z⟩), fun _ _ z => z⟩, fun i' j' hi' => absurd hi' (Nat.not_lt_zero _), Or.inl ⟨rfl, fun _ _ => Iff.rfl⟩, Nat.le_refl _⟩
    rintro kb2 l1 l2 M2 ⟨k, f2, lab2, rfl, hk1, rfl, hL2, hS2, hok2, hm2, hc2⟩ hk2
    unfold B_X5_nextRound_32
    show (mo_applied M ≤ nI k → _) ∧ (¬ mo_applied M ≤ nI k → _)
    rw [hM.2.2.2.2.2.2.2.2.2.1]
    refine pk_le An k (fun hle => ?_) (fun hlt => ?_)
    · have e1 : k = An := by omega
      subst e1
      unfold K_X5_nextRound_32_149
      refine ⟨hm2.imp (fun z => z.1) (fun z => z.1), ?_⟩
      refine hp l1 f2 g lab2 hL2 (fun u w hu hw => ⟨fun z => ?_, fun z => ?_⟩) hm2
      · have q := hS2.1 u w hu hw z
        rw [hX] at q; exact q
      · refine cl_lab (fun x y hxy => ?_) hu hw z
        rcases hxy with ⟨q1, q2, q3⟩ | ⟨a, b, c, d, q1, q2, q3, q4, q5, q6⟩
        · exact ⟨q1, q2, hS2.2 x y q3⟩
        · refine ⟨q1, q2, ?_⟩
          have q5 : lab a = lab c := q5
          have q6 : lab b = lab d := q6
          obtain ⟨x', hx', ex⟩ := hM.2.2.2.2.2.2.2.2.2.2.2.2.1 x a b q1 q3
          obtain ⟨y', hy', ey⟩ := hM.2.2.2.2.2.2.2.2.2.2.2.2.1 y c d q2 q4
          by_cases c1 : y' < x'
          · have z := hok2 x' y' hx' c1 a b c d (by rw [ex]; exact q3) (by rw [ey]; exact q4) q5 q6
            rw [ex, ey] at z; exact z
          · by_cases c2 : x' < y'
            · have z := hok2 y' x' hy' c2 c d a b (by rw [ey]; exact q4) (by rw [ex]; exact q3) q5.symm q6.symm
              rw [ex, ey] at z; exact z.symm
            · have c3 : x' = y' := by omega
              rw [← ex, ← ey, c3]
    · refine ⟨pk_in k 250 (by omega), ?_⟩
      rw [nI_clamp (show k < 2 ^ 31 by omega)]
      obtain ⟨t1, t2, a, b, t3⟩ := hM.2.2.2.2.2.2.2.2.2.2.2.1 k hlt
      have htab := hM.2.2.2.2.2.2.2.2.2.2.2.2.2 (ap k) a b t2 t3
      intro x4 e4
      have e4 : x4 = nI (ap k) := e4.trans t1
      subst e4
      refine wl3_ind (fun l1 l4 M3 => ∃ j f3 lab3, l4 = nI j ∧ j ≤ k ∧ M3 = mo_s_label (mo_s_before M g) f3 ∧ lbA i M3 lab3 ∧ lbS i X lab lab3 ∧ (∀ i' j', i' < k → j' < i' → okp tm lab lab3 (ap i') (ap j')) ∧ (∀ j', j' < j → okp tm lab lab3 (ap k) (ap j')) ∧ ((l1 = 0 ∧ ∀ u w, lab3 u = lab3 w ↔ lab u = lab w) ∨ (l1 = 1 ∧ lbc i M3 < lbc i M)) ∧ lbc i M3 ≤ lbc i M) (fun _ l4 _ => 250 - l4.toNatClampNeg) ?_ _ _ _ ⟨0, f2, lab2, rfl, Nat.zero_le _, rfl, hL2, hS2, hok2, fun j' hj' => absurd hj' (Nat.not_lt_zero _), hm2, hc2⟩
      rintro kb3 l1 l4 M3 ⟨j, f3, lab3, rfl, hj, rfl, hL3, hS3, hok3, hokj, hm3, hc3⟩ hk3
      unfold B_X5_nextRound_50
      refine pk_le k j (fun hle => ?_) (fun hlt3 => ?_)
      · have e1 : j = k := by omega
        subst e1
        refine hk2 _ _ _ ⟨j + 1, f3, lab3, nI_1 j, by omega, rfl, hL3, hS3, fun i' j' hi' hj' => ?_, hm3, hc3⟩ ?_
        · by_cases c : i' = j
          · rw [c]; exact hokj j' (by omega)
          · exact hok3 i' j' (by omega) hj'
        · rw [nI_1, nI_clamp (by omega), nI_clamp (by omega)]
          omega
      · have hm : 250 - (nI j + 1).toNatClampNeg < 250 - (nI j).toNatClampNeg := by
          rw [nI_1, nI_clamp (by omega), nI_clamp (by omega)]
          omega
        obtain ⟨u1, u2, c, d, u3⟩ := hM.2.2.2.2.2.2.2.2.2.2.2.1 j (by omega)
        have hucd := hM.2.2.2.2.2.2.2.2.2.2.2.2.2 (ap j) c d u2 u3
        have pass : okp tm lab lab3 (ap k) (ap j) → kb3 l1 (nI j + 1) (mo_s_label (mo_s_before M g) f3) := by
          intro hok
          refine hk3 _ _ _ ⟨j + 1, f3, lab3, nI_1 j, by omega, rfl, hL3, hS3, hok3, fun j' hj' => ?_, hm3, hc3⟩ hm
          by_cases c : j' = j
          · rw [c]; exact hok
          · exact hokj j' (by omega)
        refine ⟨pk_in j 250 (by omega), ?_⟩
        rw [nI_clamp (show j < 2 ^ 31 by omega)]
        intro x7 e7
        have e7 : x7 = nI (ap j) := e7.trans u1
        subst e7
        have ft : mo_first M (ap k) = nI a := by have := (hM.2.2.1 (ap k) t2).1; rw [t3] at this; exact this
        have st : mo_second M (ap k) = nI b := by have := (hM.2.2.1 (ap k) t2).2; rw [t3] at this; exact this
        have fu : mo_first M (ap j) = nI c := by have := (hM.2.2.1 (ap j) u2).1; rw [u3] at this; exact this
        have su : mo_second M (ap j) = nI d := by have := (hM.2.2.1 (ap j) u2).2; rw [u3] at this; exact this
        rw [nI_clamp (show ap k < 2 ^ 31 by omega), nI_clamp (show ap j < 2 ^ 31 by omega)]
        show vp_in (nI (ap k)) 250 ∧ vp_in (mo_first M (ap k)) 250 ∧ vp_in (nI (ap j)) 250 ∧ vp_in (mo_first M (ap j)) 250 ∧ ((g (mo_first M (ap k)).toNatClampNeg = g (mo_first M (ap j)).toNatClampNeg → vp_in (mo_second M (ap k)) 250 ∧ vp_in (mo_second M (ap j)) 250 ∧ ((g (mo_second M (ap k)).toNatClampNeg = g (mo_second M (ap j)).toNatClampNeg → _) ∧ (¬ g (mo_second M (ap k)).toNatClampNeg = g (mo_second M (ap j)).toNatClampNeg → _))) ∧ (¬ g (mo_first M (ap k)).toNatClampNeg = g (mo_first M (ap j)).toNatClampNeg → _))
        rw [ft, fu, st, su]
        refine ⟨pk_in (ap k) 250 (by omega), pk_in a 250 (by omega), pk_in (ap j) 250 (by omega), pk_in c 250 (by omega), ?_⟩
        rw [nI_clamp (show a < 2 ^ 31 by omega), nI_clamp (show c < 2 ^ 31 by omega), nI_clamp (show b < 2 ^ 31 by omega), nI_clamp (show d < 2 ^ 31 by omega)]
        rw [hg a (by omega), hg c (by omega), hg b (by omega), hg d (by omega)]
        have ba := (hL a (by omega)).2.1
        have bb := (hL b (by omega)).2.1
        have bc := (hL c (by omega)).2.1
        have bd := (hL d (by omega)).2.1
        have nok : ¬ (lab a = lab c ∧ lab b = lab d) → okp tm lab lab3 (ap k) (ap j) := by
          intro hh a' b' c' d' q1 q2 q3 q4
          rw [t3] at q1; rw [u3] at q2
          cases q1; cases q2
          exact absurd ⟨q3, q4⟩ hh
        refine pk_eq (lab a) (lab c) (fun e1 => ?_) (fun e1 => pass (nok (fun z => e1 z.1)))
        refine ⟨pk_in b 250 (by omega), pk_in d 250 (by omega), ?_⟩
        refine pk_eq (lab b) (lab d) (fun e2 => ?_) (fun e2 => pass (nok (fun z => e2 z.2)))
        have hM3 : moA i tm n l r dn dl dr An ap (mo_s_label (mo_s_before M g) f3) := hM
        have hXtu : X (ap k) (ap j) := by rw [hX]; exact Cl_sub (Or.inr ⟨a, b, c, d, t2, u2, t3, u3, e1, e2⟩)
        refine merge_ok hM3 hL3 t2 u2 (fun heq => ?_) (fun f4 lab4 _ hL4 hrel hlt4 => ?_)
        · refine ⟨fun _ => ⟨fun z => ?_, fun z => ?_⟩, fun z => absurd rfl z⟩
          · rw [← z]; exact pass (fun _ _ _ _ _ _ _ _ => heq)
          · rcases hm3 with ⟨z1, _⟩ | ⟨z1, _⟩
            · exact absurd z1 z
            · have hpz := pass (fun _ _ _ _ _ _ _ _ => heq)
              rw [z1] at hpz
              exact hpz
        · refine ⟨fun z => absurd z (by decide), fun _ => ?_⟩
          have hup : ∀ u w, lab3 u = lab3 w → lab4 u = lab4 w := fun u w z => (hrel u w).mpr (Or.inl z)
          have h9 : lbc i (mo_s_label (mo_s_before M g) f4) < lbc i (mo_s_label (mo_s_before M g) f3) := hlt4
          refine hk3 _ _ _ ⟨j + 1, f4, lab4, nI_1 j, by omega, rfl, hL4, lbS_merge hXE hS3 t2 u2 hXtu hrel, fun i' j' hi' hj' a' b' c' d' q1 q2 q3 q4 => hup _ _ (hok3 i' j' hi' hj' a' b' c' d' q1 q2 q3 q4), fun j' hj' => ?_, Or.inr ⟨rfl, by omega⟩, by omega⟩ hm
          intro a' b' c' d' q1 q2 q3 q4
          by_cases cc : j' = j
          · rw [cc]; exact (hrel _ _).mpr (Or.inr (Or.inl ⟨rfl, rfl⟩))
          · exact hup _ _ (hokj j' (by omega) a' b' c' d' q1 q2 q3 q4)
  · refine ⟨pk_in i 250 (by omega), ?_⟩
    rw [nI_clamp (show i < 2 ^ 31 by omega)]
    refine hk _ _ ⟨i + 1, upd g i (mo_label M i), nI_1 i, by omega, rfl, fun j hj => ?_⟩ ?_
    · by_cases c : j = i
      · rw [c, pk_us]; exact (hL i hlt).1
      · rw [pk_un c]; exact hg j (by omega)
    · rw [nI_1, nI_clamp (by omega), nI_clamp (by omega)]
      omega
end NR

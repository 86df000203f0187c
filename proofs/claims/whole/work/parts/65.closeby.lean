/-! PURE: the reference: closeBy, beginRounds, nextRound -/
section CB
variable {N : Nat} {tm : Nat → Option (Nat × Nat)} {n : Nat} {l r : Nat → Nat} {dn : Nat} {dl dr : Nat → Nat} {An : Nat} {ap : Nat → Nat} {M : MoS} {lab : Nat → Nat}
theorem cl_lab {S : Rel} {lab' : Nat → Nat} (hS : ∀ u w, S u w → u < N ∧ w < N ∧ lab' u = lab' w) {u w : Nat} (hu : u < N) (hw : w < N) (h : Cl S u w) : lab' u = lab' w := by
  have q := h (fun a b => a = b ∨ (a < N ∧ b < N ∧ lab' a = lab' b)) ⟨fun a => Or.inl rfl, fun a b hab => ?_, fun a b c hab hbc => ?_⟩ (fun a b hab => Or.inr (hS a b hab))
  · rcases q with q | q
    · rw [q]
    · exact q.2.2
  · rcases hab with q | q
    · exact Or.inl q.symm
    · exact Or.inr ⟨q.2.1, q.1, q.2.2.symm⟩
  · rcases hab with q | q
    · rw [q]; exact hbc
    · rcases hbc with z | z
      · rw [← z]; exact Or.inr q
      · exact Or.inr ⟨q.1, z.2.1, q.2.2.trans z.2.2⟩
theorem cl_merge {S : Rel} {lab' : Nat → Nat} (hrel : ∀ u w, u < N → w < N → (lab u = lab w ↔ Cl S u w)) (hSN : ∀ u w, S u w → u < N ∧ w < N) {a b : Nat} (ha : a < N) (hb : b < N) (hlab : ∀ u w, lab' u = lab' w ↔ lab u = lab w ∨ (lab u = lab a ∧ lab w = lab b) ∨ (lab u = lab b ∧ lab w = lab a)) : ∀ u w, u < N → w < N → (lab' u = lab' w ↔ Cl (fun x y => S x y ∨ (x = a ∧ y = b)) u w) := by
  have hE := Cl_eqv (fun x y => S x y ∨ (x = a ∧ y = b))
  have hsub : ∀ u w, Cl S u w → Cl (fun x y => S x y ∨ (x = a ∧ y = b)) u w := fun u w h => Cl_mono (fun _ _ z => Cl_sub (Or.inl z)) h
  have hab : Cl (fun x y => S x y ∨ (x = a ∧ y = b)) a b := Cl_sub (Or.inr ⟨rfl, rfl⟩)
  intro u w hu hw
  constructor
  · intro z
    rcases (hlab u w).mp z with q | ⟨q1, q2⟩ | ⟨q1, q2⟩
    · exact hsub _ _ ((hrel u w hu hw).mp q)
    · exact hE.2.2 _ _ _ (hsub _ _ ((hrel u a hu ha).mp q1)) (hE.2.2 _ _ _ hab (hE.2.1 _ _ (hsub _ _ ((hrel w b hw hb).mp q2))))
    · exact hE.2.2 _ _ _ (hsub _ _ ((hrel u b hu hb).mp q1)) (hE.2.2 _ _ _ (hE.2.1 _ _ hab) (hE.2.1 _ _ (hsub _ _ ((hrel w a hw ha).mp q2))))
  · refine cl_lab (fun x y hxy => ?_) hu hw
    rcases hxy with z | ⟨rfl, rfl⟩
    · have b := hSN x y z
      exact ⟨b.1, b.2, (hlab x y).mpr (Or.inl ((hrel x y b.1 b.2).mpr (Cl_sub z)))⟩
    · exact ⟨ha, hb, (hlab x y).mpr (Or.inr (Or.inl ⟨rfl, rfl⟩))⟩
/-- an equation is merged; the assignment behind it changes nothing -/
theorem eqmerge_ok (hM : moA N tm n l r dn dl dr An ap M) {f : Nat → Int32} (hL : lbA N (mo_s_label M f) lab) {S : Rel} (hrel : ∀ u w, u < N → w < N → (lab u = lab w ↔ Cl S u w)) (hSN : ∀ u w, S u w → u < N ∧ w < N) {i : Nat} (hi : i < n) {K : MoS → Prop}
    (hK : ∀ f' lab', lbA N (mo_s_label M f') lab' → (∀ u w, u < N → w < N → (lab' u = lab' w ↔ Cl (fun x y => S x y ∨ (x = l i ∧ y = r i)) u w)) → K (mo_s_label M f')) :
    wp_X5_merge (mo_s_label M f) (mo_left M i) (mo_right M i) (fun r_6 M_7 => ((r_6 = (0 : Int32) → (vp_in ((mo_right M_7) i) 250 ∧ (vp_in ((mo_left M_7) i) 250 ∧ (K (mo_s_label M_7 (upd (mo_label M_7) ((mo_left M_7) i).toNatClampNeg ((mo_label M_7) ((mo_right M_7) i).toNatClampNeg))))))) ∧ (¬ r_6 = (0 : Int32) → (vp_in ((mo_left M_7) i) 250 ∧ (K (mo_s_label M_7 (upd (mo_label M_7) ((mo_left M_7) i).toNatClampNeg ((mo_label M_7) ((mo_left M_7) i).toNatClampNeg)))))))) := by
  have hN := hM.2.1
  obtain ⟨o1, o2, o3, o4⟩ := hM.2.2.2.2.2.1 i hi
  have hM1 : moA N tm n l r dn dl dr An ap (mo_s_label M f) := hM
  rw [o1, o2]
  refine merge_ok hM1 hL o3 o4 (fun heq => ?_) (fun f4 lab4 hne hL4 hrel4 _ => ?_)
  · refine ⟨fun _ => ?_, fun z => absurd rfl z⟩
    show vp_in (mo_right M i) 250 ∧ vp_in (mo_left M i) 250 ∧ K (mo_s_label M (upd f (mo_left M i).toNatClampNeg (f (mo_right M i).toNatClampNeg)))
    rw [o1, o2]
    refine ⟨pk_in (r i) 250 (by omega), pk_in (l i) 250 (by omega), ?_⟩
    rw [nI_clamp (show l i < 2 ^ 31 by omega), nI_clamp (show r i < 2 ^ 31 by omega)]
    refine hK _ lab (fun j hj => ?_) (fun u w hu hw => ?_)
    · refine ⟨?_, (hL j hj).2⟩
      show upd f (l i) (f (r i)) j = nI (lab j)
      by_cases c : j = l i
      · rw [c, pk_us, heq]; exact (hL (r i) o4).1
      · rw [pk_un c]; exact (hL j hj).1
    · rw [hrel u w hu hw]
      constructor
      · exact fun z => Cl_mono (fun _ _ q => Cl_sub (Or.inl q)) z
      · refine fun z => Cl_mono (fun x y q => ?_) z
        rcases q with q | ⟨q1, q2⟩
        · exact Cl_sub q
        · rw [q1, q2]; exact (hrel _ _ o3 o4).mp heq
  · refine ⟨fun z => absurd z (by decide), fun _ => ?_⟩
    show vp_in (mo_left M i) 250 ∧ K (mo_s_label M (upd f4 (mo_left M i).toNatClampNeg (f4 (mo_left M i).toNatClampNeg)))
    rw [o1]
    refine ⟨pk_in (l i) 250 (by omega), ?_⟩
    rw [nI_clamp (show l i < 2 ^ 31 by omega)]
    refine hK _ lab4 (fun j hj => ?_) (cl_merge hrel hSN o3 o4 hrel4)
    refine ⟨?_, (hL4 j hj).2⟩
    show upd f4 (l i) (f4 (l i)) j = nI (lab4 j)
    by_cases c : j = l i
    · rw [c, pk_us]; exact (hL4 (l i) o3).1
    · rw [pk_un c]; exact (hL4 j hj).1
theorem moEq_N (hM : moA N tm n l r dn dl dr An ap M) {P : Nat → Prop} (hP : ∀ k, P k → k < n) : ∀ u w, Eqs l r P u w → u < N ∧ w < N := by
  rintro u w ⟨k, hk, rfl, rfl⟩
  have := hM.2.2.2.2.2.1 k (hP k hk)
  exact ⟨this.2.2.1, this.2.2.2⟩
theorem Cl_none {S : Rel} (hS : ∀ a b, ¬ S a b) (u w : Nat) : Cl S u w ↔ u = w := by
  constructor
  · exact fun h => h (fun a b => a = b) ⟨fun _ => rfl, fun _ _ z => z.symm, fun _ _ _ z1 z2 => z1.trans z2⟩ (fun a b z => absurd z (hS a b))
  · intro h; rw [h]; exact (Cl_eqv S).1 w
theorem Cl_iff {S S' : Rel} (h : ∀ a b, S a b ↔ S' a b) (u w : Nat) : Cl S u w ↔ Cl S' u w := ⟨Cl_mono (fun a b z => Cl_sub ((h a b).mp z)), Cl_mono (fun a b z => Cl_sub ((h a b).mpr z))⟩
theorem closeBy_ok (hM : moA N tm n l r dn dl dr An ap M) {x : Int64} {post : MoS → Prop}
    (hp : ∀ f lab', lbA N (mo_s_label M f) lab' → (∀ u w, u < N → w < N → (lab' u = lab' w ↔ Gv N tm (Eqs l r (fun k => k < n ∧ bt64 x k = true)) u w)) → post (mo_s_label M f)) : wp_X5_closeBy M x post := by
  have hn := hM.2.2.2.2.1
  unfold wp_X5_closeBy
  refine apart_ok hM (fun f0 hL0 => ?_)
  refine wl2_ind (fun l3 M1 => ∃ i f lab1, l3 = nI i ∧ i ≤ n ∧ M1 = mo_s_label M f ∧ lbA N M1 lab1 ∧ ∀ u w, u < N → w < N → (lab1 u = lab1 w ↔ Cl (Eqs l r (fun k => k < i ∧ bt64 x k = true)) u w)) (fun l3 _ => 60 - l3.toNatClampNeg) ?_ _ _ ⟨0, f0, fun x => x, rfl, Nat.zero_le _, rfl, hL0, fun u w _ _ => (Cl_none (fun a b ⟨k, hk, _⟩ => absurd hk.1 (Nat.not_lt_zero _)) u w).symm⟩
  rintro kb l3 M1 ⟨i, f, lab1, rfl, hi, rfl, hL1, hrel⟩ hk
  unfold B_X5_closeBy_6
  show (mo_equations M ≤ nI i → _) ∧ (¬ mo_equations M ≤ nI i → _)
  rw [hM.2.2.2.1]
  refine pk_le n i (fun hle => ?_) (fun hlt => ?_)
  · have e1 : i = n := by omega
    subst e1
    have hM1 : moA N tm i l r dn dl dr An ap (mo_s_label M f) := hM
    refine close_ok (B0 := Eqs l r (fun k => k < i ∧ bt64 x k = true)) hM1 hL1 (fun u w hu hw z => ?_) (fun u w z => ?_) (fun f5 lab5 hL5 hrel5 => hp f5 lab5 hL5 hrel5)
    · exact ((hrel u w hu hw).mp z) _ (Gv_eqv N tm _) (fun _ _ q => Gv_sub q)
    · have b := moEq_N hM (P := fun k => k < i ∧ bt64 x k = true) (fun k hk => hk.1) u w z
      exact ⟨b.1, b.2, (hrel u w b.1 b.2).mpr (Cl_sub z)⟩
  · have hm : 60 - (nI i + 1).toNatClampNeg < 60 - (nI i).toNatClampNeg := by
      rw [nI_1, nI_clamp (by omega), nI_clamp (by omega)]
      omega
    rw [b6_lshr (x := x) (show i < 64 by omega)]
    refine ⟨fun hb => ?_, fun hb => ?_⟩
    · refine ⟨pk_in i 60 (by omega), ?_⟩
      rw [nI_clamp (show i < 2 ^ 31 by omega)]
      refine eqmerge_ok (K := fun M9 => kb (nI i + 1) M9) hM hL1 hrel (moEq_N hM (fun k hk => by omega)) hlt (fun f' lab' hL' hrel' => ?_)
      refine hk _ _ ⟨i + 1, f', lab', nI_1 i, by omega, rfl, hL', fun u w hu hw => (hrel' u w hu hw).trans (Cl_iff (fun a b => ⟨?_, ?_⟩) u w)⟩ hm
      · rintro (⟨k, hk2, z⟩ | z)
        · exact ⟨k, ⟨by omega, hk2.2⟩, z⟩
        · exact ⟨i, ⟨by omega, hb⟩, z⟩
      · rintro ⟨k, hk2, z⟩
        by_cases c : k = i
        · subst c; exact Or.inr z
        · exact Or.inl ⟨k, ⟨by omega, hk2.2⟩, z⟩
    · refine hk _ _ ⟨i + 1, f, lab1, nI_1 i, by omega, rfl, hL1, fun u w hu hw => (hrel u w hu hw).trans (Cl_iff (fun a b => Eqs_iff (fun k => ⟨fun z => ⟨by omega, z.2⟩, fun z => ⟨?_, z.2⟩⟩) a b) u w)⟩ hm
      have : k ≠ i := fun e1 => by rw [e1] at z; exact hb z.2
      omega
theorem beginRounds_ok (hM : moA N tm n l r dn dl dr An ap M) {post : MoS → Prop}
    (hp : ∀ f lab', lbA N (mo_s_label M f) lab' → (∀ u w, u < N → w < N → (lab' u = lab' w ↔ Rd N tm (Eqs l r (fun k => k < n)) 0 u w)) → post (mo_s_label M f)) : wp_X5_beginRounds M post := by
  have hn := hM.2.2.2.2.1
  unfold wp_X5_beginRounds
  refine apart_ok hM (fun f0 hL0 => ?_)
  refine wl2_ind (fun l3 M1 => ∃ i f lab1, l3 = nI i ∧ i ≤ n ∧ M1 = mo_s_label M f ∧ lbA N M1 lab1 ∧ ∀ u w, u < N → w < N → (lab1 u = lab1 w ↔ Cl (Eqs l r (fun k => k < i)) u w)) (fun l3 _ => 60 - l3.toNatClampNeg) ?_ _ _ ⟨0, f0, fun x => x, rfl, Nat.zero_le _, rfl, hL0, fun u w _ _ => (Cl_none (fun a b ⟨k, hk, _⟩ => absurd hk (Nat.not_lt_zero _)) u w).symm⟩
  rintro kb l3 M1 ⟨i, f, lab1, rfl, hi, rfl, hL1, hrel⟩ hk
  unfold B_X5_beginRounds_6
  show (mo_equations M ≤ nI i → _) ∧ (¬ mo_equations M ≤ nI i → _)
  rw [hM.2.2.2.1]
  refine pk_le n i (fun hle => ?_) (fun hlt => ?_)
  · have e1 : i = n := by omega
    subst e1
    exact hp f lab1 hL1 hrel
  · have hm : 60 - (nI i + 1).toNatClampNeg < 60 - (nI i).toNatClampNeg := by
      rw [nI_1, nI_clamp (by omega), nI_clamp (by omega)]
      omega
    refine ⟨pk_in i 60 (by omega), ?_⟩
    rw [nI_clamp (show i < 2 ^ 31 by omega)]
    refine eqmerge_ok (K := fun M9 => kb (nI i + 1) M9) hM hL1 hrel (moEq_N hM (fun k hk => by omega)) hlt (fun f' lab' hL' hrel' => ?_)
    refine hk _ _ ⟨i + 1, f', lab', nI_1 i, by omega, rfl, hL', fun u w hu hw => (hrel' u w hu hw).trans (Cl_iff (fun a b => ⟨?_, ?_⟩) u w)⟩ hm
    · rintro (⟨k, hk2, z⟩ | z)
      · exact ⟨k, by omega, z⟩
      · exact ⟨i, by omega, z⟩
    · rintro ⟨k, hk2, z⟩
      by_cases c : k = i
      · subst c; exact Or.inr z
      · exact Or.inl ⟨k, by omega, z⟩
end CB

/-! PURE: round, count -/
section C6
variable {S : SaS} {T : TeS} {Q D : PaS} {C : ClS} {E R Y : FoS} {M : MoS} {N : Nat} {tm : Nat → Option (Nat × Nat)} {n : Nat} {l r : Nat → Nat} {dn : Nat} {dl dr : Nat → Nat} {An : Nat} {ap : Nat → Nat}
theorem lbc_le (M : MoS) : lbc N M ≤ N := cnt_le _ _
theorem next_rel (hM : moA N tm n l r dn dl dr An ap M) {lab : Nat → Nat} {rd : Nat} (hrel : ∀ u w, u < N → w < N → (lab u = lab w ↔ Rd N tm (Eqs l r (fun k => k < n)) rd u w)) (u w : Nat) : Cl (fun u w => (u < N ∧ w < N ∧ lab u = lab w) ∨ cg N tm (eqT lab) u w) u w ↔ Rd N tm (Eqs l r (fun k => k < n)) (rd + 1) u w := by
  have hEN := moEq_N hM (P := fun k => k < n) (fun k hk => hk)
  constructor
  · refine fun h => Cl_mono (fun a b hab => ?_) h
    rcases hab with ⟨q1, q2, q3⟩ | ⟨a', b', c, d, q1, q2, q3, q4, q5, q6⟩
    · exact Rd_succ rd ((hrel a b q1 q2).mp q3)
    · have k1 := hM.2.2.2.2.2.2.2.2.2.2.2.2.2 a a' b' q1 q3
      have k2 := hM.2.2.2.2.2.2.2.2.2.2.2.2.2 b c d q2 q4
      exact Cl_sub (Or.inr ⟨a', b', c, d, q1, q2, q3, q4, (hrel a' c (by omega) (by omega)).mp q5, (hrel b' d (by omega) (by omega)).mp q6⟩)
  · refine fun h => Cl_mono (fun a b hab => Cl_sub ?_) h
    rcases hab with q | ⟨a', b', c, d, q1, q2, q3, q4, q5, q6⟩
    · have hb := hEN a b q
      exact Or.inl ⟨hb.1, hb.2, (hrel a b hb.1 hb.2).mpr (Rd_base q rd)⟩
    · have k1 := hM.2.2.2.2.2.2.2.2.2.2.2.2.2 a a' b' q1 q3
      have k2 := hM.2.2.2.2.2.2.2.2.2.2.2.2.2 b c d q2 q4
      exact Or.inr ⟨a', b', c, d, q1, q2, q3, q4, (hrel a' c (by omega) (by omega)).mpr q5, (hrel b' d (by omega) (by omega)).mpr q6⟩
/-- where two rounds are alike, nothing comes any more -/
theorem Rd_stable (hM : moA N tm n l r dn dl dr An ap M) {rd : Nat} (h : ∀ u w, u < N → w < N → (Rd N tm (Eqs l r (fun k => k < n)) (rd + 1) u w ↔ Rd N tm (Eqs l r (fun k => k < n)) rd u w)) {u w : Nat} (hg : Gv N tm (Eqs l r (fun k => k < n)) u w) : Rd N tm (Eqs l r (fun k => k < n)) rd u w := by
  refine Rd_full (fun x y hxy => ?_) hg
  have hx := hxy
  obtain ⟨a, b, c, d, h1, h2, h3, h4, h5, h6⟩ := hxy
  exact (h x y h1 h2).mp (Cl_sub (Or.inr hx))
theorem meetR_ok (hT : teA N tm T) (hR : FoX N R (Rd N tm (Eqs l r (fun k => k < n)))) {a b : Nat} (ha : a < N) (hb : b < N) {post : Int32 → Prop}
    (h1 : ∀ τ, τ < 1000000 → Rd N tm (Eqs l r (fun k => k < n)) τ a b → (∀ σ, σ < τ → ¬ Rd N tm (Eqs l r (fun k => k < n)) σ a b) → post (nI τ)) (h0 : (∀ τ, τ < 1000000 → ¬ Rd N tm (Eqs l r (fun k => k < n)) τ a b) → post (-1)) : wp_X1_meeting R (nI a) (nI b) post := by
  obtain ⟨up, jt, mem, low, nxt, trees, G, now, hA, hI, hG⟩ := hR
  exact meeting_ok hT.2.1 hA hI ha hb (fun τ hτ e1 e2 => h1 τ hτ ((hG τ a b hτ ha hb).mp e1) (fun σ hσ z => e2 σ hσ ((hG σ a b (by omega) ha hb).mpr z))) (fun e2 => h0 (fun τ hτ z => e2 τ hτ ((hG τ a b hτ ha hb).mpr z)))
theorem L_round (h : Sys S T Q D E R M) {x y : Int32} {K : SaS → ClS → FoS → MoS → Prop} {Z : Prop} (hK : ∀ S' C' R' M', Sys S' T Q D E R' M' → K S' C' R' M') : wp_X4_round S T Q C R x y (fun r3 S4 C5 R6 => wp_X5_round M x y (fun r8 M9 => ((r3 = r8 → K S4 C5 R6 M9) ∧ (¬ r3 = r8 → Z)))) := by
  have h00 := h
  obtain ⟨N, tm, n, l, r, dn, dl, dr, An, ap, hT, hQ, hD, hM, hS⟩ := h
  have hN := hT.2.1
  have hn := hQ.2.1
  unfold wp_X4_round
  refine areTerms_ok hT (fun a b ha hb ea eb => ?_) (fun hbad => ?_)
  · subst ea; subst eb
    refine ⟨fun z => absurd z (by decide), fun _ => ?_⟩
    refine rounds_ok hT hQ hS.2.1 (fun S' C' R' hR' hv => ?_)
    obtain ⟨v, rfl, hv⟩ := hv
    have ref : ∀ (q : Int32), (∀ τ, τ < 1000 → Rd N tm (Eqs l r (fun k => k < n)) τ a b → (∀ σ, σ < τ → ¬ Rd N tm (Eqs l r (fun k => k < n)) σ a b) → q = nI τ) → ((∀ τ, ¬ Rd N tm (Eqs l r (fun k => k < n)) τ a b) → q = -1) → wp_X5_round M (nI a) (nI b) (fun r8 M9 => ((q = r8 → K (sa_s_byRoundsHolds S v) C' R' M9) ∧ (¬ q = r8 → Z))) := by
      intro q q1 q0
      unfold wp_X5_round
      refine two_ok hM (fun _ _ _ _ _ _ => ?_) (fun z => absurd ⟨⟨a, ha, rfl⟩, b, hb, rfl⟩ z)
      have hsys : ∀ f g, Sys (sa_s_byRoundsHolds S v) T Q D E R' (mo_s_label (mo_s_before M g) f) := fun f g => ⟨N, tm, n, l, r, dn, dl, dr, An, ap, hT, hQ, hD, hM, SaI_R hS hR'⟩
      refine beginRounds_ok hM (fun f0 lab0 hL0 hrel0 => ?_)
      refine wl3_ind (fun l3 l4 M1 => ∃ rd f g lab, l3 = nI rd ∧ rd ≤ 251 ∧ M1 = mo_s_label (mo_s_before M g) f ∧ lbA N M1 lab ∧ (∀ u w, u < N → w < N → (lab u = lab w ↔ Rd N tm (Eqs l r (fun k => k < n)) rd u w)) ∧ (∀ σ, σ < rd → ¬ Rd N tm (Eqs l r (fun k => k < n)) σ a b) ∧ ((l4 = 0 ∧ ∀ u w, Gv N tm (Eqs l r (fun k => k < n)) u w → Rd N tm (Eqs l r (fun k => k < n)) rd u w) ∨ (l4 = 1 ∧ rd + lbc N M1 ≤ 250))) (fun _ l4 M1 => 2 * lbc N M1 + (if l4 = 0 then 0 else 1)) ?_ _ _ _ ⟨0, f0, mo_before M, lab0, rfl, by omega, rfl, hL0, hrel0, fun σ hσ => absurd hσ (Nat.not_lt_zero _), Or.inr ⟨rfl, by have := lbc_le (N := N) (mo_s_label M f0); omega⟩⟩
      rintro kb l3 l4 M1 ⟨rd, f, g, lab, rfl, hrd, rfl, hL, hrel, hno, hmore⟩ hk
      have hM1 : moA N tm n l r dn dl dr An ap (mo_s_label (mo_s_before M g) f) := hM
      have la : mo_label (mo_s_label (mo_s_before M g) f) (nI a).toNatClampNeg = nI (lab a) := by rw [nI_clamp (show a < 2 ^ 31 by omega)]; exact (hL a ha).1
      have lb : mo_label (mo_s_label (mo_s_before M g) f) (nI b).toNatClampNeg = nI (lab b) := by rw [nI_clamp (show b < 2 ^ 31 by omega)]; exact (hL b hb).1
      have b1 := (hL a ha).2.1
      have b2 := (hL b hb).2.1
      unfold B_X5_round_28
      refine ⟨pk_in a 250 (by omega), pk_in b 250 (by omega), ?_⟩
      rw [la, lb]
      refine pk_eq (lab a) (lab b) (fun e => ?_) (fun e => ?_)
      · unfold K_X5_round_28_60
        refine ⟨pk_in a 250 (by omega), pk_in b 250 (by omega), ?_⟩
        rw [la, lb]
        refine pk_eq (lab a) (lab b) (fun _ => ?_) (fun z => absurd e z)
        rw [q1 rd (by omega) ((hrel a b ha hb).mp e) hno]
        exact ⟨fun _ => hK _ _ _ _ (hsys f g), fun z => absurd rfl z⟩
      · rcases hmore with ⟨rfl, hst⟩ | ⟨rfl, hc⟩
        · refine ⟨fun _ => ?_, fun z => absurd rfl z⟩
          unfold K_X5_round_28_60
          refine ⟨pk_in a 250 (by omega), pk_in b 250 (by omega), ?_⟩
          rw [la, lb]
          refine pk_eq (lab a) (lab b) (fun z => absurd z e) (fun _ => ?_)
          rw [q0 (fun τ z => e ((hrel a b ha hb).mpr (hst a b (Rd_Gv τ z))))]
          exact ⟨fun _ => hK _ _ _ _ (hsys f g), fun z => absurd rfl z⟩
        · refine ⟨fun z => absurd z (by decide), fun _ => ?_⟩
          refine nextRound_ok hM1 hL (fun v2 f2 g2 lab2 hL2 hrel2 hv2 => ?_)
          have hrel3 : ∀ u w, u < N → w < N → (lab2 u = lab2 w ↔ Rd N tm (Eqs l r (fun k => k < n)) (rd + 1) u w) := fun u w hu hw => (hrel2 u w hu hw).trans (next_rel hM hrel u w)
          refine hk _ _ _ ⟨rd + 1, f2, g2, lab2, nI_1 rd, by omega, rfl, hL2, hrel3, fun σ hσ => ?_, ?_⟩ ?_
          · by_cases c : σ = rd
            · rw [c]; exact fun z => e ((hrel a b ha hb).mpr z)
            · exact hno σ (by omega)
          · rcases hv2 with ⟨z1, z2⟩ | ⟨z1, z2⟩
            · refine Or.inl ⟨z1, fun u w hg => Rd_succ rd (Rd_stable hM (fun u w hu hw => ?_) hg)⟩
              rw [← hrel3 u w hu hw, z2, hrel u w hu hw]
            · refine Or.inr ⟨z1, ?_⟩
              have z3 : lbc N (mo_s_label (mo_s_before M g2) f2) < lbc N (mo_s_label (mo_s_before M g) f) := z2
              show rd + 1 + lbc N (mo_s_label (mo_s_before M g2) f2) ≤ 250
              omega
          · show 2 * lbc N (mo_s_label (mo_s_before M g2) f2) + (if v2 = 0 then 0 else 1) < 2 * lbc N (mo_s_label (mo_s_before M g) f) + (if (1 : Int32) = 0 then 0 else 1)
            rw [if_neg (show ¬ (1 : Int32) = 0 by decide)]
            rcases hv2 with ⟨z1, z2⟩ | ⟨z1, z2⟩
            · rw [if_pos z1]
              have hA2 : lbA N (mo_s_label (mo_s_before M g2) f2) lab2 := hL2
              have e1 : lbc N (mo_s_label (mo_s_before M g2) f2) ≤ lbc N (mo_s_label (mo_s_before M g) f) := by
                rw [lbc_eq hN hA2, lbc_eq hN hL]
                refine Nat.le_of_eq (cnt_congr (fun k hk2 => ?_))
                rw [decide_eq_decide]
                have p1 := (hA2 k hk2).2
                have p2 := (hL k hk2).2
                have e2 : lab (lab2 k) = lab k := (z2 _ _).mp p1.2
                have e3 : lab2 (lab k) = lab2 k := (z2 _ _).mpr p2.2
                have p3 := (hA2 (lab k) (by omega)).2.1
                have p4 := (hL (lab2 k) (by omega)).2.1
                omega
              omega
            · have z3 : lbc N (mo_s_label (mo_s_before M g2) f2) < lbc N (mo_s_label (mo_s_before M g) f) := z2
              split <;> omega
    refine meetR_ok hT hR' ha hb (fun τ hτ g1 g2 => ref _ (fun τ' hτ' g1' g2' => ?_) (fun z => absurd g1 (z τ))) (fun g => ref _ (fun τ hτ g1 g2 => absurd g1 (g τ (by omega))) (fun _ => rfl))
    have e1 : τ = τ' := by
      by_cases c : τ < τ'
      · exact absurd g1 (g2' τ c)
      · by_cases c2 : τ' < τ
        · exact absurd g1' (g2 τ' c2)
        · omega
    rw [e1]
  · refine ⟨fun _ => ?_, fun z => absurd rfl z⟩
    unfold wp_X5_round
    exact two_ok hM (fun a b ha hb ea eb => absurd ⟨⟨a, ha, ea⟩, b, hb, eb⟩ hbad) (fun _ => ⟨fun _ => hK _ _ _ _ h00, fun z => absurd rfl z⟩)
theorem cnt_lt_ex {p q : Nat → Bool} : ∀ {n : Nat}, cnt p n < cnt q n → ∃ k, k < n ∧ q k = true ∧ p k = false
  | 0, h => by simp [cnt] at h
  | n + 1, h => by
    simp only [cnt] at h
    by_cases c : cnt p n < cnt q n
    · obtain ⟨k, hk, z⟩ := cnt_lt_ex c
      exact ⟨k, by omega, z⟩
    · refine ⟨n, by omega, ?_⟩
      cases hp : p n <;> cases hq : q n <;> simp [hp, hq] at h ⊢ <;> omega
theorem L_count (h : Sys S T Q D E R M) {x : Int32} {K : SaS → ClS → FoS → FoS → MoS → Prop} {Z : Prop} (hK : ∀ S' C' E' R' M', Sys S' T Q D E' R' M' → K S' C' E' R' M') : wp_X4_count S T Q D C E R x (fun r3 S4 C5 E6 R7 => wp_X5_count M x (fun r8 M9 => ((r3 = r8 → K S4 C5 E6 R7 M9) ∧ (¬ r3 = r8 → Z)))) := by
  have h00 := h
  obtain ⟨N, tm, n, l, r, dn, dl, dr, An, ap, hT, hQ, hD, hM, hS⟩ := h
  have hN := hT.2.1
  have hn := hQ.2.1
  unfold wp_X4_count wp_X5_count
  refine ⟨fun hx => ?_, fun hx => ?_, fun hx => ?_, fun hx => ?_, fun hx => ?_, fun hx => ?_⟩
  · exact ⟨fun _ => ⟨fun _ => hK _ _ _ _ _ h00, fun z => absurd (by rw [hT.1, hM.1]) z⟩, fun z => by omega, fun z => by omega, fun z => by omega, fun z => by omega, fun z => by omega⟩
  · exact ⟨fun z => by omega, fun _ => ⟨fun _ => hK _ _ _ _ _ h00, fun z => absurd (by rw [hQ.1, hM.2.2.2.1]) z⟩, fun z => by omega, fun z => by omega, fun z => by omega, fun z => by omega⟩
  · exact ⟨fun z => by omega, fun z => by omega, fun _ => ⟨fun _ => hK _ _ _ _ _ h00, fun z => absurd (by rw [hD.1, hM.2.2.2.2.2.2.1]) z⟩, fun z => by omega, fun z => by omega, fun z => by omega⟩
  · refine classes_ok hT hQ hS.1 (fun S' C' E' hE' hv => ?_)
    obtain ⟨v, rfl, hv⟩ := hv
    refine ⟨fun z => by omega, fun z => by omega, fun z => by omega, fun _ => ?_, fun z => by omega, fun z => by omega⟩
    have hE0 := hE'
    obtain ⟨up, jt, mem, low, nxt, trees, G, now, hA, hI, hG⟩ := hE'
    refine all_close_ok hM (fun f lab' hL hrel => ?_)
    have htr : trees = cnt (fun k => decide (lab' k = k)) N := by
      rw [hI.2.2.2.2.2.2.2.2.2.1]
      refine cnt_congr (fun k hk => ?_)
      rw [low_lab hI (fin_rel hn hI hG) (fun j hj => (hL j hj).2) hrel hk]
    refine wl2_ind (fun l2 l3 => ∃ i, i ≤ N ∧ l2 = nI (cnt (fun k => decide (lab' k = k)) i) ∧ l3 = nI i) (fun _ l3 => 250 - l3.toNatClampNeg) ?_ _ _ ⟨0, Nat.zero_le _, rfl, rfl⟩
    rintro kb l2 l3 ⟨i, hi, rfl, rfl⟩ hk
    unfold B_X5_count_63
    show (mo_terms M ≤ nI i → _) ∧ (¬ mo_terms M ≤ nI i → _)
    rw [hM.1]
    refine pk_le N i (fun hle => ?_) (fun hlt => ?_)
    · have e1 : i = N := by omega
      subst e1
      show (fo_trees E' = nI (cnt (fun k => decide (lab' k = k)) i) → _) ∧ (¬ fo_trees E' = nI (cnt (fun k => decide (lab' k = k)) i) → _)
      rw [hA.2.2.2.2.2.1, htr]
      exact ⟨fun _ => hK _ _ _ _ _ ⟨i, tm, n, l, r, dn, dl, dr, An, ap, hT, hQ, hD, hM, SaI_E hS hE0⟩, fun z => absurd rfl z⟩
    · refine ⟨pk_in i 250 (by omega), ?_⟩
      have hm : 250 - (nI i + 1).toNatClampNeg < 250 - (nI i).toNatClampNeg := by
        rw [nI_1, nI_clamp (by omega), nI_clamp (by omega)]
        omega
      rw [nI_clamp (show i < 2 ^ 31 by omega), (hL i hlt).1]
      have b2 := (hL i hlt).2.1
      refine pk_eq (lab' i) i (fun e => ?_) (fun e => ?_)
      · intro x9 e9
        refine hk _ _ ⟨i + 1, by omega, ?_, nI_1 i⟩ hm
        rw [e9]
        simp only [cnt, e, decide_true, if_true]
        exact nI_1 _
      · refine hk _ _ ⟨i + 1, by omega, ?_, nI_1 i⟩ hm
        simp [cnt, e]
  · refine rounds_ok hT hQ hS.2.1 (fun S' C' R' hR' hv => ?_)
    obtain ⟨v, rfl, hv⟩ := hv
    refine ⟨fun z => by omega, fun z => by omega, fun z => by omega, fun z => by omega, fun _ => ?_, fun z => by omega⟩
    have hR0 := hR'
    obtain ⟨up, jt, mem, low, nxt, trees, G, now, hA, hI, hG⟩ := hR'
    have hnow := hI.2.2.2.2.1
    have hlate : ∀ τ, now ≤ τ → τ < 1000000 → ∀ u w, u < N → w < N → (Rd N tm (Eqs l r (fun k => k < n)) τ u w ↔ Rd N tm (Eqs l r (fun k => k < n)) now u w) := by
      intro τ h1 h2 u w hu hw
      rw [← hG τ u w h2 hu hw, ← hG now u w hnow hu hw, frI_late hI h1 h2 u hu, frI_late hI h1 h2 w hw]
    have hnew : now = 0 ∨ ∃ u w, u < N ∧ w < N ∧ Rd N tm (Eqs l r (fun k => k < n)) now u w ∧ ¬ Rd N tm (Eqs l r (fun k => k < n)) (now - 1) u w := by
      rcases hI.2.2.2.2.2.2.2.2.2.2.2 with z | ⟨x, hx, hux, hjx⟩
      · exact Or.inl z
      · by_cases c : now = 0
        · exact Or.inl c
        · refine Or.inr ⟨x, up x, hx, hI.1 x hx, (hG now _ _ hnow hx (hI.1 x hx)).mp (frI_up hI hx).symm, fun z => ?_⟩
          have z2 := (hG (now - 1) _ _ (by omega) hx (hI.1 x hx)).mpr z
          have h3 := (hI.2.2.1 x hx hux).2.1
          rw [hI.2.2.2.2.2.2.1 (now - 1) x hx (by omega), hI.2.2.2.2.2.2.1 (now - 1) (up x) (hI.1 x hx) (by omega)] at z2
          exact hux z2.symm
    refine beginRounds_ok hM (fun f0 lab0 hL0 hrel0 => ?_)
    refine wl2_ind (fun l2 M1 => ∃ rd f g lab, l2 = nI rd ∧ M1 = mo_s_label (mo_s_before M g) f ∧ lbA N M1 lab ∧ rd + lbc N M1 ≤ 250 ∧ (∀ u w, u < N → w < N → (lab u = lab w ↔ Rd N tm (Eqs l r (fun k => k < n)) rd u w)) ∧ (rd = 0 ∨ ∃ u w, u < N ∧ w < N ∧ Rd N tm (Eqs l r (fun k => k < n)) rd u w ∧ ¬ Rd N tm (Eqs l r (fun k => k < n)) (rd - 1) u w)) (fun _ M1 => lbc N M1) ?_ _ _ ⟨0, f0, mo_before M, lab0, rfl, rfl, hL0, by have := lbc_le (N := N) (mo_s_label M f0); omega, hrel0, Or.inl rfl⟩
    rintro kb l2 M1 ⟨rd, f, g, lab, rfl, rfl, hL, hc, hrel, hw⟩ hk
    have hM1 : moA N tm n l r dn dl dr An ap (mo_s_label (mo_s_before M g) f) := hM
    unfold B_X5_count_103
    refine nextRound_ok hM1 hL (fun v2 f2 g2 lab2 hL2 hrel2 hv2 => ?_)
    have hrel3 : ∀ u w, u < N → w < N → (lab2 u = lab2 w ↔ Rd N tm (Eqs l r (fun k => k < n)) (rd + 1) u w) := fun u w hu hw => (hrel2 u w hu hw).trans (next_rel hM hrel u w)
    rcases hv2 with ⟨rfl, z2⟩ | ⟨rfl, z2⟩
    · refine ⟨fun _ => ?_, fun z => absurd rfl z⟩
      show (fo_latest R' = nI rd → _) ∧ (¬ fo_latest R' = nI rd → _)
      have hst : ∀ u w, Gv N tm (Eqs l r (fun k => k < n)) u w → Rd N tm (Eqs l r (fun k => k < n)) rd u w := fun u w hg => Rd_stable hM (fun u w hu hw => by rw [← hrel3 u w hu hw, z2, hrel u w hu hw]) hg
      have e1 : now = rd := by
        by_cases c : now < rd
        · rcases hw with z | ⟨u, w, hu, hw, w1, w2⟩
          · omega
          · exact absurd ((hlate (rd - 1) (by omega) (by omega) u w hu hw).mpr ((hlate rd (by omega) (by omega) u w hu hw).mp w1)) w2
        · by_cases c2 : rd < now
          · rcases hnew with z | ⟨u, w, hu, hw, w1, w2⟩
            · omega
            · exact absurd (Rd_le (show rd ≤ now - 1 by omega) (hst u w (Rd_Gv now w1))) w2
          · omega
      rw [hA.2.2.2.2.2.2, e1]
      exact ⟨fun _ => hK _ _ _ _ _ ⟨N, tm, n, l, r, dn, dl, dr, An, ap, hT, hQ, hD, hM, SaI_R hS hR0⟩, fun z => absurd rfl z⟩
    · refine ⟨fun z => absurd z (by decide), fun _ => ?_⟩
      have z3 : lbc N (mo_s_label (mo_s_before M g2) f2) < lbc N (mo_s_label (mo_s_before M g) f) := z2
      have hA2 : lbA N (mo_s_label (mo_s_before M g2) f2) lab2 := hL2
      refine hk _ _ ⟨rd + 1, f2, g2, lab2, nI_1 rd, rfl, hL2, ?_, hrel3, Or.inr ?_⟩ z3
      · show rd + 1 + lbc N (mo_s_label (mo_s_before M g2) f2) ≤ 250
        omega
      · have z4 := z3
        rw [lbc_eq hN hA2, lbc_eq hN hL] at z4
        obtain ⟨k, hk2, k1, k2⟩ := cnt_lt_ex z4
        have k1 : lab k = k := of_decide_eq_true k1
        have k2 : ¬ lab2 k = k := of_decide_eq_false k2
        have p1 := (hA2 k hk2).2
        refine ⟨k, lab2 k, hk2, by omega, (hrel3 k (lab2 k) hk2 (by omega)).mp p1.2.symm, fun z => k2 ?_⟩
        have z5 : lab k = lab (lab2 k) := (hrel k (lab2 k) hk2 (by omega)).mpr z
        have p4 := (hL (lab2 k) (by omega)).2.1
        omega
  · exact ⟨fun z => by omega, fun z => by omega, fun z => by omega, fun z => by omega, fun z => by omega, fun _ => ⟨fun _ => hK _ _ _ _ _ h00, fun z => absurd rfl z⟩⟩
end C6

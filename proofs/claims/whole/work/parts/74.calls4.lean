/-! PURE: clash, least, size, since, gives -/
section C4
variable {S : SaS} {T : TeS} {Q D : PaS} {C : ClS} {E R Y : FoS} {M : MoS} {N : Nat} {tm : Nat → Option (Nat × Nat)} {n : Nat} {l r : Nat → Nat} {dn : Nat} {dl dr : Nat → Nat} {An : Nat} {ap : Nat → Nat}
theorem fin_rel (hn : n ≤ 60) {up jt mem low nxt : Nat → Nat} {trees : Nat} {G : Nat → Nat → Nat} {now : Nat} (hI : frI N up jt mem low nxt trees G now) (hG : ∀ τ u w, τ < 1000000 → u < N → w < N → (G τ u = G τ w ↔ Gv N tm (Eqs l r (fun k => k < τ ∧ k < n)) u w)) : ∀ u w, u < N → w < N → (G now u = G now w ↔ Gv N tm (Eqs l r (fun k => k < n)) u w) := by
  intro u w hu hw
  have hnow := hI.2.2.2.2.1
  obtain ⟨t, ht⟩ : ∃ t, t = (if now ≤ n then n else now) := ⟨_, rfl⟩
  have h1 : now ≤ t := by rw [ht]; split <;> omega
  have h2 : n ≤ t := by rw [ht]; split <;> omega
  have h3 : t < 1000000 := by rw [ht]; split <;> omega
  rw [← frI_late hI h1 h3 u hu, ← frI_late hI h1 h3 w hw, hG t u w h3 hu hw]
  exact Gv_iff (fun x y => Eqs_iff (fun k => ⟨fun z => z.2, fun z => ⟨by omega, z⟩⟩) x y) u w
theorem low_lab {X : Rel} {up jt mem low nxt : Nat → Nat} {trees : Nat} {G : Nat → Nat → Nat} {now : Nat} (hI : frI N up jt mem low nxt trees G now) (hG : ∀ u w, u < N → w < N → (G now u = G now w ↔ X u w)) {lab : Nat → Nat} (hL : ∀ j, j < N → lab j ≤ j ∧ lab (lab j) = lab j) (hlab : ∀ u w, u < N → w < N → (lab u = lab w ↔ X u w)) {a : Nat} (ha : a < N) : low (G now a) = lab a := by
  have hr := frI_lt hI hI.2.2.2.2.1 a ha
  obtain ⟨l1, l2, l3⟩ := hI.2.2.2.2.2.2.2.2.1 (G now a) hr (frI_top hI a ha)
  have q := hL a ha
  have e1 : lab (low (G now a)) = lab a := (hlab _ _ l1 ha).mpr ((hG _ _ l1 ha).mp l2)
  have q2 := (hL _ l1).1
  have e2 : G now (lab a) = G now a := (hG _ _ (by omega) ha).mpr ((hlab _ _ (by omega) ha).mp q.2)
  have q3 := l3 (lab a) (by omega) e2
  omega
theorem L_least (h : Sys S T Q D E R M) {x : Int32} {K : SaS → ClS → FoS → MoS → Prop} {Z : Prop} (hK : ∀ S' C' E' M', Sys S' T Q D E' R M' → K S' C' E' M') : wp_X4_least S T Q C E x (fun r3 S4 C5 E6 => wp_X5_least M x (fun r8 M9 => ((r3 = r8 → K S4 C5 E6 M9) ∧ (¬ r3 = r8 → Z)))) := by
  have h00 := h
  obtain ⟨N, tm, n, l, r, dn, dl, dr, An, ap, hT, hQ, hD, hM, hS⟩ := h
  have hN := hT.2.1
  unfold wp_X4_least
  refine has_ok hT (fun a ha ea => ?_) (fun hbad => ?_)
  · subst ea
    refine ⟨fun z => absurd z (by decide), fun _ => ?_⟩
    refine classes_ok hT hQ hS.1 (fun S' C' E' hE' hv => ?_)
    obtain ⟨v, rfl, hv⟩ := hv
    have hE0 := hE'
    obtain ⟨up, jt, mem, low, nxt, trees, G, now, hA, hI, hG⟩ := hE'
    have hr := frI_lt hI hI.2.2.2.2.1 a ha
    refine top_ok hN hA hI ha ?_
    refine ⟨pk_in (G now a) 250 (by omega), ?_⟩
    rw [nI_clamp (show G now a < 2 ^ 31 by omega), hA.2.2.2.1 _ hr]
    unfold wp_X5_least
    refine one_ok hM (fun _ _ _ => ?_) (fun z => absurd rfl (z a ha))
    refine all_close_ok hM (fun f lab' hL hrel => ?_)
    refine ⟨pk_in a 250 (by omega), ?_⟩
    rw [nI_clamp (show a < 2 ^ 31 by omega), (hL a ha).1, low_lab hI (fin_rel hQ.2.1 hI hG) (fun j hj => (hL j hj).2) hrel ha]
    exact ⟨fun _ => hK _ _ _ _ ⟨N, tm, n, l, r, dn, dl, dr, An, ap, hT, hQ, hD, hM, SaI_E hS hE0⟩, fun z => absurd rfl z⟩
  · refine ⟨fun _ => ?_, fun z => absurd rfl z⟩
    unfold wp_X5_least
    exact one_ok hM (fun a ha ea => absurd ea (hbad a ha)) (fun _ => ⟨fun _ => hK _ _ _ _ h00, fun z => absurd rfl z⟩)
theorem L_size (h : Sys S T Q D E R M) {x : Int32} {K : SaS → ClS → FoS → MoS → Prop} {Z : Prop} (hK : ∀ S' C' E' M', Sys S' T Q D E' R M' → K S' C' E' M') : wp_X4_size S T Q C E x (fun r3 S4 C5 E6 => wp_X5_size M x (fun r8 M9 => ((r3 = r8 → K S4 C5 E6 M9) ∧ (¬ r3 = r8 → Z)))) := by
  have h00 := h
  obtain ⟨N, tm, n, l, r, dn, dl, dr, An, ap, hT, hQ, hD, hM, hS⟩ := h
  have hN := hT.2.1
  unfold wp_X4_size
  refine has_ok hT (fun a ha ea => ?_) (fun hbad => ?_)
  · subst ea
    refine ⟨fun z => absurd z (by decide), fun _ => ?_⟩
    refine classes_ok hT hQ hS.1 (fun S' C' E' hE' hv => ?_)
    obtain ⟨v, rfl, hv⟩ := hv
    have hE0 := hE'
    obtain ⟨up, jt, mem, low, nxt, trees, G, now, hA, hI, hG⟩ := hE'
    have hr := frI_lt hI hI.2.2.2.2.1 a ha
    refine top_ok hN hA hI ha ?_
    refine ⟨pk_in (G now a) 250 (by omega), ?_⟩
    rw [nI_clamp (show G now a < 2 ^ 31 by omega), hA.2.2.1 _ hr]
    unfold wp_X5_size
    refine one_ok hM (fun _ _ _ => ?_) (fun z => absurd rfl (z a ha))
    refine all_close_ok hM (fun f lab' hL hrel => ?_)
    have hmem : mem (G now a) = cnt (fun k => decide (lab' k = lab' a)) N := by
      rw [hI.2.2.2.2.2.2.2.1 _ hr (frI_top hI a ha)]
      refine cnt_congr (fun k hk => ?_)
      rw [decide_eq_decide, fin_rel hQ.2.1 hI hG k a hk ha, hrel k a hk ha]
    refine wl2_ind (fun l2 l3 => ∃ i, i ≤ N ∧ l2 = nI (cnt (fun k => decide (lab' k = lab' a)) i) ∧ l3 = nI i) (fun _ l3 => 250 - l3.toNatClampNeg) ?_ _ _ ⟨0, Nat.zero_le _, rfl, rfl⟩
    rintro kb l2 l3 ⟨i, hi, rfl, rfl⟩ hk
    unfold B_X5_size_23
    show (mo_terms M ≤ nI i → _) ∧ (¬ mo_terms M ≤ nI i → _)
    rw [hM.1]
    refine pk_le N i (fun hle => ?_) (fun hlt => ?_)
    · have e1 : i = N := by omega
      subst e1
      show (nI (mem (G now a)) = nI (cnt (fun k => decide (lab' k = lab' a)) i) → _) ∧ (¬ nI (mem (G now a)) = nI (cnt (fun k => decide (lab' k = lab' a)) i) → _)
      rw [hmem]
      exact ⟨fun _ => hK _ _ _ _ ⟨i, tm, n, l, r, dn, dl, dr, An, ap, hT, hQ, hD, hM, SaI_E hS hE0⟩, fun z => absurd rfl z⟩
    · refine ⟨pk_in i 250 (by omega), pk_in a 250 (by omega), ?_⟩
      have hm : 250 - (nI i + 1).toNatClampNeg < 250 - (nI i).toNatClampNeg := by
        rw [nI_1, nI_clamp (by omega), nI_clamp (by omega)]
        omega
      rw [nI_clamp (show i < 2 ^ 31 by omega), nI_clamp (show a < 2 ^ 31 by omega), (hL i hlt).1, (hL a ha).1]
      have b1 := (hL a ha).2.1
      have b2 := (hL i hlt).2.1
      refine pk_eq (lab' i) (lab' a) (fun e => ?_) (fun e => ?_)
      · intro x9 e9
        refine hk _ _ ⟨i + 1, by omega, ?_, nI_1 i⟩ hm
        rw [e9]
        simp only [cnt, e, decide_true, if_true]
        exact nI_1 _
      · refine hk _ _ ⟨i + 1, by omega, ?_, nI_1 i⟩ hm
        simp [cnt, e]
  · refine ⟨fun _ => ?_, fun z => absurd rfl z⟩
    unfold wp_X5_size
    exact one_ok hM (fun a ha ea => absurd ea (hbad a ha)) (fun _ => ⟨fun _ => hK _ _ _ _ h00, fun z => absurd rfl z⟩)
theorem L_since (h : Sys S T Q D E R M) {x y : Int32} {K : SaS → ClS → FoS → MoS → Prop} {Z : Prop} (hK : ∀ S' C' E' M', Sys S' T Q D E' R M' → K S' C' E' M') : wp_X4_since S T Q C E x y (fun r3 S4 C5 E6 => wp_X5_since M x y (fun r8 M9 => ((r3 = r8 → K S4 C5 E6 M9) ∧ (¬ r3 = r8 → Z)))) := by
  have h00 := h
  obtain ⟨N, tm, n, l, r, dn, dl, dr, An, ap, hT, hQ, hD, hM, hS⟩ := h
  have hN := hT.2.1
  have hn := hQ.2.1
  unfold wp_X4_since
  refine areTerms_ok hT (fun a b ha hb ea eb => ?_) (fun hbad => ?_)
  · subst ea; subst eb
    refine ⟨fun z => absurd z (by decide), fun _ => ?_⟩
    refine classes_ok hT hQ hS.1 (fun S' C' E' hE' hv => ?_)
    obtain ⟨v, rfl, hv⟩ := hv
    have ref : ∀ (q : Int32), (∀ τ, τ ≤ n → Gv N tm (Eqs l r (fun k => k < τ ∧ k < n)) a b → (∀ σ, σ < τ → ¬ Gv N tm (Eqs l r (fun k => k < σ ∧ k < n)) a b) → q = nI τ) → (¬ Gv N tm (Eqs l r (fun k => k < n)) a b → q = -1) → wp_X5_since M (nI a) (nI b) (fun r8 M9 => ((q = r8 → K (sa_s_byEquationsHolds S v) C' E' M9) ∧ (¬ q = r8 → Z))) := by
      intro q q1 q0
      unfold wp_X5_since
      refine two_ok hM (fun _ _ _ _ _ _ => ?_) (fun z => absurd ⟨⟨a, ha, rfl⟩, b, hb, rfl⟩ z)
      have hsys : ∀ f, Sys (sa_s_byEquationsHolds S v) T Q D E' R (mo_s_label M f) := fun f => ⟨N, tm, n, l, r, dn, dl, dr, An, ap, hT, hQ, hD, hM, SaI_E hS hE'⟩
      refine wl2_ind (fun l3 M1 => ∃ i f, i ≤ n + 1 ∧ l3 = nI i ∧ M1 = mo_s_label M f ∧ ∀ σ, σ < i → ¬ Gv N tm (Eqs l r (fun k => k < σ ∧ k < n)) a b) (fun l3 _ => 62 - l3.toNatClampNeg) ?_ _ _ ⟨0, mo_label M, Nat.zero_le _, rfl, rfl, fun σ hσ => absurd hσ (Nat.not_lt_zero _)⟩
      rintro kb l3 M1 ⟨i, f, hi, rfl, rfl, hno⟩ hk
      unfold B_X5_since_21
      show (mo_equations M < nI i → _) ∧ (¬ mo_equations M < nI i → _)
      rw [hM.2.2.2.1]
      refine pk_lt n i (fun hlt => ?_) (fun hge => ?_)
      · show (q = -1 → _) ∧ (¬ q = -1 → _)
        rw [q0 (fun z => hno n hlt (Gv_mono (fun _ _ ⟨k, hk, z⟩ => Gv_sub ⟨k, ⟨hk, hk⟩, z⟩) z))]
        exact ⟨fun _ => hK _ _ _ _ (hsys f), fun z => absurd rfl z⟩
      · have hM1 : moA N tm n l r dn dl dr An ap (mo_s_label M f) := hM
        refine closeBy_ok hM1 (fun f2 lab' hL hrel => ?_)
        have hrel2 : ∀ u w, u < N → w < N → (lab' u = lab' w ↔ Gv N tm (Eqs l r (fun k => k < i ∧ k < n)) u w) := by
          intro u w hu hw
          refine (hrel u w hu hw).trans (Gv_iff (fun x y => Eqs_iff (fun k => ?_) x y) u w)
          constructor
          · intro z
            have z2 := z.2
            rw [b6_all i (by omega) k (by omega)] at z2
            exact ⟨of_decide_eq_true z2, z.1⟩
          · intro z
            refine ⟨z.2, ?_⟩
            rw [b6_all i (by omega) k (by omega)]
            simp [z.1]
        refine ⟨pk_in a 250 (by omega), pk_in b 250 (by omega), ?_⟩
        show (mo_label (mo_s_label M f2) (nI a).toNatClampNeg = mo_label (mo_s_label M f2) (nI b).toNatClampNeg → _) ∧ (¬ mo_label (mo_s_label M f2) (nI a).toNatClampNeg = mo_label (mo_s_label M f2) (nI b).toNatClampNeg → _)
        have la : mo_label (mo_s_label M f2) a = nI (lab' a) := (hL a ha).1
        have lb : mo_label (mo_s_label M f2) b = nI (lab' b) := (hL b hb).1
        rw [nI_clamp (show a < 2 ^ 31 by omega), nI_clamp (show b < 2 ^ 31 by omega), la, lb]
        have b1 := (hL a ha).2.1
        have b2 := (hL b hb).2.1
        refine pk_eq (lab' a) (lab' b) (fun e => ?_) (fun e => ?_)
        · rw [q1 i hge ((hrel2 a b ha hb).mp e) hno]
          exact ⟨fun _ => hK _ _ _ _ (hsys f2), fun z => absurd rfl z⟩
        · refine hk _ _ ⟨i + 1, f2, by omega, nI_1 i, rfl, fun σ hσ => ?_⟩ ?_
          · by_cases c : σ = i
            · rw [c]; exact fun z => e ((hrel2 a b ha hb).mpr z)
            · exact hno σ (by omega)
          · rw [nI_1, nI_clamp (by omega), nI_clamp (by omega)]
            omega
    refine meetE_ok hT hn hE' ha hb (fun τ hτ g1 g2 => ref _ (fun τ' hτ' g1' g2' => ?_) (fun z => absurd (sub_all g1) z)) (fun g => ref _ (fun τ hτ g1 g2 => absurd (sub_all g1) g) (fun _ => rfl))
    have e1 : τ = τ' := by
      by_cases c : τ < τ'
      · exact absurd g1 (g2' τ c)
      · by_cases c2 : τ' < τ
        · exact absurd g1' (g2 τ' c2)
        · omega
    rw [e1]
  · refine ⟨fun _ => ?_, fun z => absurd rfl z⟩
    unfold wp_X5_since
    exact two_ok hM (fun a b ha hb ea eb => absurd ⟨⟨a, ha, ea⟩, b, hb, eb⟩ hbad) (fun _ => ⟨fun _ => hK _ _ _ _ h00, fun z => absurd rfl z⟩)
theorem L_gives (h : Sys S T Q D E R M) {g : Int64} {x y : Int32} {K : ClS → FoS → MoS → Prop} {Z : Prop} (hK : ∀ C' Y' M', Sys S T Q D E R M' → K C' Y' M') : wp_X4_gives S T Q C Y g x y (fun r3 C5 Y6 => wp_X5_gives M g x y (fun r8 M9 => ((r3 = r8 → K C5 Y6 M9) ∧ (¬ r3 = r8 → Z)))) := by
  have h00 := h
  obtain ⟨N, tm, n, l, r, dn, dl, dr, An, ap, hT, hQ, hD, hM, hS⟩ := h
  have hN := hT.2.1
  have hn := hQ.2.1
  unfold wp_X4_gives
  refine areTerms_ok hT (fun a b ha hb ea eb => ?_) (fun hbad => ?_)
  · subst ea; subst eb
    refine ⟨fun z => absurd z (by decide), fun _ => ?_⟩
    rw [hQ.1, b6_high (x := g) (show n < 64 by omega)]
    refine ⟨fun hin => ?_, fun hout => ?_⟩
    · have ref : ∀ (C' : ClS) (Y' : FoS) (q : Int32), (Gv N tm (Eqs l r (fun k => k < n ∧ bt64 g k = true)) a b → q = 1) → (¬ Gv N tm (Eqs l r (fun k => k < n ∧ bt64 g k = true)) a b → q = 0) → wp_X5_gives M g (nI a) (nI b) (fun r8 M9 => ((q = r8 → K C' Y' M9) ∧ (¬ q = r8 → Z))) := by
        intro C' Y' q q1 q0
        unfold wp_X5_gives
        refine two_ok hM (fun _ _ _ _ _ _ => ?_) (fun z => absurd ⟨⟨a, ha, rfl⟩, b, hb, rfl⟩ z)
        unfold wp_X5_all
        rw [hM.2.2.2.1]
        dsimp only
        rw [b6_outside (x := g) (show n < 63 by omega)]
        refine ⟨fun _ => ?_, fun z => absurd hin z⟩
        refine closeBy_ok hM (fun f lab' hL hrel => ?_)
        refine ⟨pk_in a 250 (by omega), pk_in b 250 (by omega), ?_⟩
        rw [nI_clamp (show a < 2 ^ 31 by omega), nI_clamp (show b < 2 ^ 31 by omega), (hL a ha).1, (hL b hb).1]
        have b1 := (hL a ha).2.1
        have b2 := (hL b hb).2.1
        have hsys : Sys S T Q D E R (mo_s_label M f) := ⟨N, tm, n, l, r, dn, dl, dr, An, ap, hT, hQ, hD, hM, hS⟩
        refine pk_eq (lab' a) (lab' b) (fun e => ?_) (fun e => ?_)
        · rw [q1 ((hrel a b ha hb).mp e)]
          exact ⟨fun _ => hK _ _ _ hsys, fun z => absurd rfl z⟩
        · rw [q0 (fun z => e ((hrel a b ha hb).mpr z))]
          exact ⟨fun _ => hK _ _ _ hsys, fun z => absurd rfl z⟩
      refine closeOver_ok hT hQ (fun C' Y' G' q1 q2 tr hCS hrel => ?_)
      obtain ⟨up, jt, mem, low, nxt, hA, hI⟩ := CS_fr hCS
      have hk0 : Gv N tm (Kq l r n g 0) a b ↔ Gv N tm (Eqs l r (fun k => k < n ∧ bt64 g k = true)) a b := Gv_iff (fun x y => Eqs_iff (fun k => ⟨fun z => ⟨z.1, z.2.resolve_left (Nat.not_lt_zero _)⟩, fun z => ⟨z.1, Or.inr z.2⟩⟩) x y) a b
      refine meeting_ok hN hA hI ha hb (fun τ hτ e1 e2 => ?_) (fun e2 => ?_)
      · refine ⟨fun z => absurd z (nI_ne1 (by omega)), fun _ => ref C' Y' 1 (fun _ => rfl) (fun z => absurd (hk0.mp ((hrel a b ha hb).mp ?_)) z)⟩
        rw [frI_late hI (Nat.zero_le _) hτ a ha, frI_late hI (Nat.zero_le _) hτ b hb] at e1
        exact e1
      · refine ⟨fun _ => ref C' Y' 0 (fun z => absurd ((hrel a b ha hb).mpr (hk0.mpr z)) (e2 0 (by omega))) (fun _ => rfl), fun z => absurd rfl z⟩
    · unfold wp_X5_gives
      refine two_ok hM (fun _ _ _ _ _ _ => ?_) (fun z => absurd ⟨⟨a, ha, rfl⟩, b, hb, rfl⟩ z)
      unfold wp_X5_all
      rw [hM.2.2.2.1]
      dsimp only
      rw [b6_outside (x := g) (show n < 63 by omega)]
      refine ⟨fun z => absurd z hout, fun _ => ⟨fun _ => hK _ _ _ h00, fun z => absurd rfl z⟩⟩
  · refine ⟨fun _ => ?_, fun z => absurd rfl z⟩
    unfold wp_X5_gives
    exact two_ok hM (fun a b ha hb ea eb => absurd ⟨⟨a, ha, ea⟩, b, hb, eb⟩ hbad) (fun _ => ⟨fun _ => hK _ _ _ h00, fun z => absurd rfl z⟩)
theorem L_clash (h : Sys S T Q D E R M) {K : SaS → ClS → FoS → MoS → Prop} {Z : Prop} (hK : ∀ S' C' E' M', Sys S' T Q D E' R M' → K S' C' E' M') : wp_X4_clash S T Q D C E (fun r3 S4 C5 E6 => wp_X5_clash M (fun r8 M9 => ((r3 = r8 → K S4 C5 E6 M9) ∧ (¬ r3 = r8 → Z)))) := by
  obtain ⟨N, tm, n, l, r, dn, dl, dr, An, ap, hT, hQ, hD, hM, hS⟩ := h
  have hN := hT.2.1
  have hn := hQ.2.1
  have hd := hD.2.1
  unfold wp_X4_clash
  refine classes_ok hT hQ hS.1 (fun S' C' E' hE' hv => ?_)
  obtain ⟨v, rfl, hv⟩ := hv
  have ref : ∀ (q : Int32), (∀ i, i < dn → Gv N tm (Eqs l r (fun k => k < n)) (dl i) (dr i) → (∀ j, j < i → ¬ Gv N tm (Eqs l r (fun k => k < n)) (dl j) (dr j)) → q = nI i) → ((∀ j, j < dn → ¬ Gv N tm (Eqs l r (fun k => k < n)) (dl j) (dr j)) → q = -1) → wp_X5_clash M (fun r8 M9 => ((q = r8 → K (sa_s_byEquationsHolds S v) C' E' M9) ∧ (¬ q = r8 → Z))) := by
    intro q q1 q0
    unfold wp_X5_clash
    refine all_close_ok hM (fun f lab' hL hrel => ?_)
    have hsys : Sys (sa_s_byEquationsHolds S v) T Q D E' R (mo_s_label M f) := ⟨N, tm, n, l, r, dn, dl, dr, An, ap, hT, hQ, hD, hM, SaI_E hS hE'⟩
    refine wl1_ind (fun l1 => ∃ i, i ≤ dn ∧ l1 = nI i ∧ ∀ j, j < i → ¬ Gv N tm (Eqs l r (fun k => k < n)) (dl j) (dr j)) (fun l1 => 30 - l1.toNatClampNeg) ?_ _ ⟨0, Nat.zero_le _, rfl, fun j hj => absurd hj (Nat.not_lt_zero _)⟩
    rintro kb l1 ⟨i, hi, rfl, hno⟩ hk
    unfold B_X5_clash_10
    show (mo_differences M ≤ nI i → _) ∧ (¬ mo_differences M ≤ nI i → _)
    rw [hM.2.2.2.2.2.2.1]
    refine pk_le dn i (fun hle => ?_) (fun hlt => ?_)
    · show (q = -1 → _) ∧ (¬ q = -1 → _)
      rw [q0 (fun j hj => hno j (by omega))]
      exact ⟨fun _ => hK _ _ _ _ hsys, fun z => absurd rfl z⟩
    · obtain ⟨o1, o2, o3, o4⟩ := hM.2.2.2.2.2.2.2.2.1 i hlt
      refine ⟨pk_in i 30 (by omega), ?_⟩
      rw [nI_clamp (show i < 2 ^ 31 by omega)]
      show vp_in (mo_one M i) 250 ∧ vp_in (mo_other M i) 250 ∧ ((mo_label (mo_s_label M f) (mo_one M i).toNatClampNeg = mo_label (mo_s_label M f) (mo_other M i).toNatClampNeg → _) ∧ (¬ mo_label (mo_s_label M f) (mo_one M i).toNatClampNeg = mo_label (mo_s_label M f) (mo_other M i).toNatClampNeg → _))
      rw [o1, o2]
      refine ⟨pk_in (dl i) 250 (by omega), pk_in (dr i) 250 (by omega), ?_⟩
      rw [nI_clamp (show dl i < 2 ^ 31 by omega), nI_clamp (show dr i < 2 ^ 31 by omega), (hL _ o3).1, (hL _ o4).1]
      have b1 := (hL _ o3).2.1
      have b2 := (hL _ o4).2.1
      refine pk_eq (lab' (dl i)) (lab' (dr i)) (fun e => ?_) (fun e => ?_)
      · rw [q1 i hlt ((hrel _ _ o3 o4).mp e) hno]
        exact ⟨fun _ => hK _ _ _ _ hsys, fun z => absurd rfl z⟩
      · refine hk _ ⟨i + 1, by omega, nI_1 i, fun j hj => ?_⟩ ?_
        · by_cases c : j = i
          · rw [c]; exact fun z => e ((hrel _ _ o3 o4).mpr z)
          · exact hno j (by omega)
        · rw [nI_1, nI_clamp (by omega), nI_clamp (by omega)]
          omega
  refine wl1_ind (fun l2 => ∃ i, i ≤ dn ∧ l2 = nI i ∧ ∀ j, j < i → ¬ Gv N tm (Eqs l r (fun k => k < n)) (dl j) (dr j)) (fun l2 => 30 - l2.toNatClampNeg) ?_ _ ⟨0, Nat.zero_le _, rfl, fun j hj => absurd hj (Nat.not_lt_zero _)⟩
  rintro kb l2 ⟨i, hi, rfl, hno⟩ hk
  unfold B_X4_clash_7
  rw [hD.1]
  refine pk_le dn i (fun hle => ?_) (fun hlt => ?_)
  · exact ref (-1) (fun j hj g _ => absurd g (hno j (by omega))) (fun _ => rfl)
  · refine ⟨pk_in i 30 (by omega), ?_⟩
    obtain ⟨o1, o2, o3, o4⟩ := hD.2.2 i hlt
    rw [nI_clamp (show i < 2 ^ 31 by omega), o1, o2]
    refine meetE_ok hT hn hE' o3 o4 (fun τ hτ g1 g2 => ?_) (fun g => ?_)
    · refine ⟨fun z => absurd z (nI_ne1 (by omega)), fun _ => ref (nI i) (fun j hj gj nj => ?_) (fun z => absurd (sub_all g1) (z i hlt))⟩
      have e1 : i = j := by
        by_cases c : i < j
        · exact absurd (sub_all g1) (nj i c)
        · by_cases c2 : j < i
          · exact absurd gj (hno j c2)
          · omega
      rw [e1]
    · refine ⟨fun _ => ?_, fun z => absurd rfl z⟩
      refine hk _ ⟨i + 1, by omega, nI_1 i, fun j hj => ?_⟩ ?_
      · by_cases c : j = i
        · rw [c]; exact g
        · exact hno j (by omega)
      · rw [nI_1, nI_clamp (by omega), nI_clamp (by omega)]
        omega
end C4

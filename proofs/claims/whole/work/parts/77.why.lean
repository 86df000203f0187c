/-! PURE: why -/
section C7
variable {S : SaS} {T : TeS} {Q D : PaS} {C : ClS} {E R Y : FoS} {M : MoS} {N : Nat} {tm : Nat → Option (Nat × Nat)} {n : Nat} {l r : Nat → Nat} {dn : Nat} {dl dr : Nat → Nat} {An : Nat} {ap : Nat → Nat}
theorem cnt_mono (p : Nat → Bool) : ∀ {i j : Nat}, i ≤ j → cnt p i ≤ cnt p j := by
  intro i j h
  induction h with
  | refl => exact Nat.le_refl _
  | step _ ih => simp only [cnt]; omega
theorem cnt_tail {p : Nat → Bool} {n m : Nat} (h : n ≤ m) (hz : ∀ k, n ≤ k → k < m → p k = false) : cnt p m = cnt p n := by
  induction h with
  | refl => rfl
  | step h2 ih =>
    simp only [cnt]
    rw [ih (fun k h3 h4 => hz k h3 (by omega)), hz _ h2 (by omega)]
    simp
theorem cnt_at {p : Nat → Bool} {i j : Nat} (hi : p i = true) (hj : p j = true) (h : cnt p i = cnt p j) : i = j := by
  by_cases c : i < j
  · have h1 := cnt_mono p (show i + 1 ≤ j by omega)
    simp only [cnt, hi, if_true] at h1
    omega
  · by_cases c2 : j < i
    · have h1 := cnt_mono p (show j + 1 ≤ i by omega)
      simp only [cnt, hj, if_true] at h1
      omega
    · omega
theorem reasonsOf_ok (hT : teA N tm T) (hQ : paA N 60 Q n l r) (hS : SaI N tm l r n S E R) {a b : Nat} (ha : a < N) (hb : b < N) (hall : Gv N tm (Eqs l r (fun k => k < n)) a b) {post : Int64 → SaS → ClS → FoS → FoS → Prop}
    (hp : ∀ x S' C' E' Y', RS N tm l r n a b (fun k => bt64 x k = true) → SaI N tm l r n S' E' R → post x S' C' E' Y') : wp_X4_reasonsOf S T Q C E Y (nI a) (nI b) post := by
  have hN := hT.2.1
  have hn := hQ.2.1
  have go : wp_X4_classes S T Q C E (fun S_2 C_3 E_4 => (wp_X1_meeting E_4 (nI a) (nI b) (fun r_5 => (∃ n : Nat, wl5 (B_X4_reasonsOf_44 S_2 T Q (nI a) (nI b) (K_X4_reasonsOf_44_84 S_2 E_4 (nI a) (nI b) post)) n (0 : Int64) r_5 (0 : Int32) C_3 Y)))) := by
    refine classes_ok hT hQ hS.1 (fun S' C' E' hE' hv => ?_)
    obtain ⟨v, rfl, hv⟩ := hv
    have hz : ∀ k, bt64 (0 : Int64) k = false := by
      intro k
      show (0#64).getLsbD k = false
      simp
    have hkq : ∀ τ, Gv N tm (Kq l r n 0 τ) a b ↔ Gv N tm (Eqs l r (fun k => k < τ ∧ k < n)) a b := fun τ => Gv_iff (fun x y => Eqs_iff (fun k => ⟨fun z => ⟨z.2.resolve_right (by rw [hz k]; decide), z.1⟩, fun z => ⟨z.2, Or.inl z.1⟩⟩) x y) a b
    refine meetE_ok hT hn hE' ha hb (fun τ hτ g1 g2 => ?_) (fun g => absurd hall g)
    refine reasons_loop hT hQ ha hb hall hτ ((hkq τ).mpr g1) (fun i hi z => g2 i hi ((hkq i).mp z)) (fun x C2 Y2 hRS => ?_)
    refine hp x _ _ _ _ hRS ⟨fun _ => hE', hS.2.1, fun _ => ⟨a, b, rfl, rfl, ha, hb, hRS⟩⟩
  unfold wp_X4_reasonsOf
  refine ⟨fun _ => go, fun hh => ?_⟩
  obtain ⟨a0, b0, r1, r2, r3, r4, r5⟩ := hS.2.2 hh
  rw [r1, r2]
  refine pk_eq a0 a (fun e1 => ?_) (fun _ => go)
  refine pk_eq b0 b (fun e2 => ?_) (fun _ => go)
  subst e1; subst e2
  exact hp _ _ _ _ _ r5 hS
/-- the reference's reasons: the numbers of what is kept -/
theorem ref_why (hM : moA N tm n l r dn dl dr An ap M) {a b : Nat} (ha : a < N) (hb : b < N) (hall : Gv N tm (Eqs l r (fun k => k < n)) a b) {q : Int32} {post : Int32 → MoS → Prop}
    (hp : ∀ x f, RS N tm l r n a b (fun k => bt64 x k = true) → (∀ i, i < n → bt64 x i = true → nI (cnt (bt64 x) i) = q → post (nI i) (mo_s_label M f)) ∧ ((∀ i, i < n → bt64 x i = true → ¬ nI (cnt (bt64 x) i) = q) → ((q = (-1 : Int32) → post (nI (cnt (bt64 x) n)) (mo_s_label M f)) ∧ (¬ q = (-1 : Int32) → post (-1 : Int32) (mo_s_label M f))))) :
    ∀ f0, ∃ m : Nat, wl3 (B_X5_why_49 (nI a) (nI b) (K_X5_why_49_103 q post)) m (((1 : Int64) <<< ((nI n).toInt64 &&& 63)) - (1 : Int64)) (nI n - 1) (mo_s_label M f0) := by
  intro f0
  have hN := hM.2.1
  have hn := hM.2.2.2.2.1
  have hbig : ∀ (x : Int64) k, 64 ≤ k → bt64 x k = false := fun x k hk => BitVec.getLsbD_of_ge _ _ hk
  refine wl3_ind (fun l4 l6 M1 => ∃ m f, m ≤ n ∧ l6 = nI m - 1 ∧ M1 = mo_s_label M f ∧ (∀ k, k < m → bt64 l4 k = true) ∧ (∀ k, n ≤ k → bt64 l4 k = false) ∧ (∀ e, m ≤ e → e < n → (bt64 l4 e = true ↔ ¬ Gv N tm (Eqs l r (fun k => k < n ∧ (k < e ∨ (e < k ∧ bt64 l4 k = true)))) a b))) (fun _ l6 _ => (l6 + 1).toNatClampNeg) ?_ _ _ _ ⟨n, f0, Nat.le_refl _, rfl, rfl, fun k hk => by rw [b6_all n (by omega) k (by omega)]; simp [hk], fun k hk => ?_, fun e h1 h2 => by omega⟩
  · rintro kb x l6 M1 ⟨m, f, hm, rfl, rfl, hlow, hhigh, hch⟩ hk
    unfold B_X5_why_49
    by_cases c0 : m = 0
    · subst c0
      refine ⟨fun _ => ?_, fun z => absurd (show nI 0 - 1 < 0 by decide) z⟩
      have hRS : RS N tm l r n a b (fun k => bt64 x k = true) := by
        refine ⟨fun k hk2 => ?_, fun e he => hch e (Nat.zero_le _) he⟩
        by_cases c : k < n
        · exact c
        · have hk3 : bt64 x k = true := hk2
          rw [hhigh k (by omega)] at hk3; cases hk3
      obtain ⟨p1, p2⟩ := hp x f hRS
      unfold K_X5_why_49_103
      refine wl2_ind (fun l6 l7 => ∃ i, i ≤ n ∧ l6 = nI (cnt (bt64 x) i) ∧ l7 = nI i ∧ ∀ k, k < i → bt64 x k = true → ¬ nI (cnt (bt64 x) k) = q) (fun _ l7 => 60 - l7.toNatClampNeg) ?_ _ _ ⟨0, Nat.zero_le _, rfl, rfl, fun k hk => absurd hk (Nat.not_lt_zero _)⟩
      rintro kb2 l6 l7 ⟨i, hi, rfl, rfl, hno⟩ hk2
      unfold B_X5_why_109
      show (mo_equations M ≤ nI i → _) ∧ (¬ mo_equations M ≤ nI i → _)
      rw [hM.2.2.2.1]
      refine pk_le n i (fun hle => ?_) (fun hlt => ?_)
      · have e1 : i = n := by omega
        subst e1
        exact p2 hno
      · have hmeas : 60 - (nI i + 1).toNatClampNeg < 60 - (nI i).toNatClampNeg := by
          rw [nI_1, nI_clamp (by omega), nI_clamp (by omega)]
          omega
        rw [b6_lshr (x := x) (show i < 64 by omega)]
        refine ⟨fun hb2 => ⟨fun hq => p1 i hlt hb2 hq, fun hq => ?_⟩, fun hb2 => ?_⟩
        · refine hk2 _ _ ⟨i + 1, by omega, ?_, nI_1 i, fun k hk3 hkb => ?_⟩ hmeas
          · simp only [cnt, hb2, if_true]; exact nI_1 _
          · by_cases c : k = i
            · rw [c]; exact hq
            · exact hno k (by omega) hkb
        · have hb3 : bt64 x i = false := by
            cases h9 : bt64 x i with
            | true => exact absurd h9 hb2
            | false => rfl
          refine hk2 _ _ ⟨i + 1, by omega, ?_, nI_1 i, fun k hk3 hkb => ?_⟩ hmeas
          · simp [cnt, hb3]
          · by_cases c : k = i
            · rw [c, hb3] at hkb; cases hkb
            · exact hno k (by omega) hkb
    · have e6 : nI m - 1 = nI (m - 1) := pk_sub (b := 1) (by omega)
      rw [e6]
      refine ⟨fun z => absurd z (nI_pos (by omega)), fun _ => ?_⟩
      intro x16 e16
      have hb16 : ∀ k, bt64 x16 k = true ↔ bt64 x k = true ∧ k ≠ m - 1 := by
        intro k
        by_cases c : k < 64
        · rw [e16, b6_clr (by omega) c]; simp
        · rw [hbig x16 k (by omega), hbig x k (by omega)]; simp
      have hM1 : moA N tm n l r dn dl dr An ap (mo_s_label M f) := hM
      refine closeBy_ok hM1 (fun f2 lab' hL hrel => ?_)
      have la : mo_label (mo_s_label M f2) a = nI (lab' a) := (hL a ha).1
      have lb : mo_label (mo_s_label M f2) b = nI (lab' b) := (hL b hb).1
      have b1 := (hL a ha).2.1
      have b2 := (hL b hb).2.1
      refine ⟨pk_in a 250 (by omega), pk_in b 250 (by omega), ?_⟩
      show (mo_label (mo_s_label M f2) (nI a).toNatClampNeg = mo_label (mo_s_label M f2) (nI b).toNatClampNeg → kb x16 (nI (m - 1) + (-1)) (mo_s_label M f2)) ∧ (¬ mo_label (mo_s_label M f2) (nI a).toNatClampNeg = mo_label (mo_s_label M f2) (nI b).toNatClampNeg → kb x (nI (m - 1) + (-1)) (mo_s_label M f2))
      rw [nI_clamp (show a < 2 ^ 31 by omega), nI_clamp (show b < 2 ^ 31 by omega), la, lb]
      have hset : Gv N tm (Eqs l r (fun k => k < n ∧ bt64 x16 k = true)) a b ↔ Gv N tm (Eqs l r (fun k => k < n ∧ (k < m - 1 ∨ (m - 1 < k ∧ bt64 x k = true)))) a b := by
        refine Gv_iff (fun u w => Eqs_iff (fun k => ?_) u w) a b
        rw [hb16 k]
        constructor
        · rintro ⟨z1, z2, z3⟩
          by_cases c : k < m - 1
          · exact ⟨z1, Or.inl c⟩
          · exact ⟨z1, Or.inr ⟨by omega, z2⟩⟩
        · rintro ⟨z1, z2 | z2⟩
          · exact ⟨z1, hlow k (by omega), by omega⟩
          · exact ⟨z1, z2.2, by omega⟩
      have e7 : nI (m - 1) + (-1) = nI (m - 1) - 1 := (Int32.sub_eq_add_neg _ _).symm
      have hmeas : (nI (m - 1) + (-1) + 1).toNatClampNeg < (nI m - 1 + 1).toNatClampNeg := by
        rw [e7, Int32.sub_add_cancel, Int32.sub_add_cancel, nI_clamp (by omega), nI_clamp (by omega)]
        omega
      have hm2 : (nI (m - 1) + (-1) + 1).toNatClampNeg < (nI (m - 1) + 1).toNatClampNeg := by
        rw [e7, Int32.sub_add_cancel, nI_1, nI_clamp (by omega), nI_clamp (by omega)]
        omega
      refine pk_eq (lab' a) (lab' b) (fun e => ?_) (fun e => ?_)
      · have hg := hset.mp ((hrel a b ha hb).mp e)
        refine hk _ _ _ ⟨m - 1, f2, by omega, e7, rfl, fun k hk2 => (hb16 k).mpr ⟨hlow k (by omega), by omega⟩, fun k hk2 => ?_, fun e2 h1 h2 => ?_⟩ (by first | exact hmeas | exact hm2)
        · cases h9 : bt64 x16 k with
          | true => have := ((hb16 k).mp h9).1; rw [hhigh k hk2] at this; cases this
          | false => rfl
        · by_cases c : e2 = m - 1
          · subst c
            refine ⟨fun z => absurd rfl ((hb16 _).mp z).2, fun z => absurd (Gv_mono (fun u w ⟨k, hk2, z⟩ => Gv_sub ⟨k, ⟨hk2.1, hk2.2.imp id (fun q => ⟨q.1, (hb16 k).mpr ⟨q.2, by omega⟩⟩)⟩, z⟩) hg) z⟩
          · rw [hb16 e2, show (bt64 x e2 = true ∧ e2 ≠ m - 1) ↔ bt64 x e2 = true from ⟨fun z => z.1, fun z => ⟨z, c⟩⟩, hch e2 (by omega) h2]
            refine not_congr (Gv_iff (fun u w => Eqs_iff (fun k => ?_) u w) a b)
            rw [hb16 k]
            constructor
            · rintro ⟨z1, z2 | z2⟩
              · exact ⟨z1, Or.inl z2⟩
              · exact ⟨z1, Or.inr ⟨z2.1, z2.2, by omega⟩⟩
            · rintro ⟨z1, z2 | z2⟩
              · exact ⟨z1, Or.inl z2⟩
              · exact ⟨z1, Or.inr ⟨z2.1, z2.2.1⟩⟩
      · have hg : ¬ Gv N tm (Eqs l r (fun k => k < n ∧ (k < m - 1 ∨ (m - 1 < k ∧ bt64 x k = true)))) a b := fun z => e ((hrel a b ha hb).mpr (hset.mpr z))
        refine hk _ _ _ ⟨m - 1, f2, by omega, e7, rfl, fun k hk2 => hlow k (by omega), hhigh, fun e2 h1 h2 => ?_⟩ (by first | exact hmeas | exact hm2)
        by_cases c : e2 = m - 1
        · subst c
          exact ⟨fun _ => hg, fun _ => hlow _ (by omega)⟩
        · exact hch e2 (by omega) h2
  · by_cases c : k < 64
    · rw [b6_all n (by omega) k c]; simp; omega
    · exact hbig _ k (by omega)
theorem L_why (h : Sys S T Q D E R M) {x y q : Int32} {K : SaS → ClS → FoS → FoS → MoS → Prop} {Z : Prop} (hK : ∀ S' C' E' Y' M', Sys S' T Q D E' R M' → K S' C' E' Y' M') : wp_X4_why S T Q C E Y x y q (fun r3 S4 C5 E6 Y7 => wp_X5_why M x y q (fun r8 M9 => ((r3 = r8 → K S4 C5 E6 Y7 M9) ∧ (¬ r3 = r8 → Z)))) := by
  have h00 := h
  obtain ⟨N, tm, n, l, r, dn, dl, dr, An, ap, hT, hQ, hD, hM, hS⟩ := h
  have hN := hT.2.1
  have hn := hQ.2.1
  unfold wp_X4_why
  refine areTerms_ok hT (fun a b ha hb ea eb => ?_) (fun hbad => ?_)
  · subst ea; subst eb
    refine ⟨fun z => absurd z (by decide), fun _ => ?_⟩
    refine ⟨fun hq => ?_, fun hq => ?_⟩
    · refine classes_ok hT hQ hS.1 (fun S' C' E' hE' hv => ?_)
      obtain ⟨v, rfl, hv⟩ := hv
      have hS' : SaI N tm l r n (sa_s_byEquationsHolds S v) E' R := SaI_E hS hE'
      refine meetE_ok hT hn hE' ha hb (fun τ hτ g1 g2 => ?_) (fun g => ?_)
      · refine ⟨fun z => absurd z (nI_ne1 (by omega)), fun _ => ?_⟩
        have hall := sub_all g1
        refine reasonsOf_ok hT hQ hS' ha hb hall (fun xc S2 C2 E2 Y2 hRS hS2 => ?_)
        have hbits : ∀ k, n ≤ k → bt64 xc k = false := by
          intro k hk
          cases h9 : bt64 xc k with
          | true => have := hRS.1 k h9; omega
          | false => rfl
        have ref : ∀ (w : Int32), (∀ i, i < n → bt64 xc i = true → nI (cnt (bt64 xc) i) = q → w = nI i) → ((∀ i, i < n → bt64 xc i = true → ¬ nI (cnt (bt64 xc) i) = q) → ((q = (-1 : Int32) → w = nI (cnt (bt64 xc) n)) ∧ (¬ q = (-1 : Int32) → w = -1))) → wp_X5_why M (nI a) (nI b) q (fun r8 M9 => ((w = r8 → K S2 C2 E2 Y2 M9) ∧ (¬ w = r8 → Z))) := by
          intro w w1 w2
          unfold wp_X5_why
          refine two_ok hM (fun _ _ _ _ _ _ => ?_) (fun z => absurd ⟨⟨a, ha, rfl⟩, b, hb, rfl⟩ z)
          refine ⟨fun _ => ?_, fun z => absurd hq z⟩
          unfold wp_X5_areSame
          refine all_close_ok hM (fun f lab' hL hrel => ?_)
          refine ⟨pk_in a 250 (by omega), pk_in b 250 (by omega), ?_⟩
          rw [nI_clamp (show a < 2 ^ 31 by omega), nI_clamp (show b < 2 ^ 31 by omega), (hL a ha).1, (hL b hb).1]
          have b1 := (hL a ha).2.1
          have b2 := (hL b hb).2.1
          refine pk_eq (lab' a) (lab' b) (fun e => ?_) (fun e => absurd ((hrel a b ha hb).mpr hall) e)
          refine ⟨fun z => absurd z (by decide), fun _ => ?_⟩
          unfold wp_X5_all
          show ∀ x_10 : Int32, x_10 = mo_equations M - (1 : Int32) → ∃ m : Nat, wl3 (B_X5_why_49 (nI a) (nI b) (K_X5_why_49_103 q _)) m (((1 : Int64) <<< ((mo_equations M).toInt64 &&& 63)) - (1 : Int64)) x_10 (mo_s_label M f)
          rw [hM.2.2.2.1]
          intro x10 e10
          subst e10
          refine ref_why hM ha hb hall (fun xm f2 hRSm => ?_) f
          have hsys : Sys S2 T Q D E2 R (mo_s_label M f2) := ⟨N, tm, n, l, r, dn, dl, dr, An, ap, hT, hQ, hD, hM, hS2⟩
          have hxx : xm = xc := by
            refine b6_ext (fun k _ => ?_)
            have u := RS_uniq hRSm hRS k
            cases h1 : bt64 xm k <;> cases h2 : bt64 xc k
            · rfl
            · exact absurd (u.mpr h2) (by rw [h1]; decide)
            · exact absurd (u.mp h1) (by rw [h2]; decide)
            · rfl
          subst hxx
          refine ⟨fun i hi hb2 hc => ?_, fun hno => ⟨fun hq1 => ?_, fun hq1 => ?_⟩⟩
          · rw [w1 i hi hb2 hc]
            exact ⟨fun _ => hK _ _ _ _ _ hsys, fun z => absurd rfl z⟩
          · rw [(w2 hno).1 hq1]
            exact ⟨fun _ => hK _ _ _ _ _ hsys, fun z => absurd rfl z⟩
          · rw [(w2 hno).2 hq1]
            exact ⟨fun _ => hK _ _ _ _ _ hsys, fun z => absurd rfl z⟩
        have hcl : ∀ i, cnt (bt64 xc) i < 2 ^ 31 ∨ 2 ^ 31 ≤ i := fun i => by have := cnt_le (bt64 xc) i; omega
        refine ⟨fun hq1 => ?_, fun hq1 => ?_⟩
        · refine bitCount_ok ?_
          rw [cnt_tail (show n ≤ 64 by omega) (fun k h1 _ => hbits k h1)]
          refine ref _ (fun i hi hb2 hc => ?_) (fun _ => ⟨fun _ => rfl, fun z => absurd hq1 z⟩)
          rw [hq1] at hc
          exact absurd hc (nI_ne1 (by have := cnt_le (bt64 xc) i; omega))
        · refine equationAt_ok (fun i hi hb2 hc => ref _ (fun j hj hb3 hc3 => ?_) (fun hno => absurd hc (hno i ?_ hb2))) (fun hno => ref _ (fun i hi hb2 hc => absurd hc (hno i (by omega) hb2)) (fun _ => ⟨fun z => absurd z hq1, fun _ => rfl⟩))
          · have e1 : cnt (bt64 xc) i = cnt (bt64 xc) j := nI_inj (by have := cnt_le (bt64 xc) i; omega) (by have := cnt_le (bt64 xc) j; omega) (hc.trans hc3.symm)
            rw [cnt_at hb2 hb3 e1]
          · by_cases c : i < n
            · exact c
            · rw [hbits i (by omega)] at hb2; cases hb2
      · refine ⟨fun _ => ?_, fun z => absurd rfl z⟩
        unfold wp_X5_why
        refine two_ok hM (fun _ _ _ _ _ _ => ?_) (fun z => absurd ⟨⟨a, ha, rfl⟩, b, hb, rfl⟩ z)
        refine ⟨fun _ => ?_, fun z => absurd hq z⟩
        unfold wp_X5_areSame
        refine all_close_ok hM (fun f lab' hL hrel => ?_)
        refine ⟨pk_in a 250 (by omega), pk_in b 250 (by omega), ?_⟩
        rw [nI_clamp (show a < 2 ^ 31 by omega), nI_clamp (show b < 2 ^ 31 by omega), (hL a ha).1, (hL b hb).1]
        have b1 := (hL a ha).2.1
        have b2 := (hL b hb).2.1
        refine pk_eq (lab' a) (lab' b) (fun e => absurd ((hrel a b ha hb).mp e) g) (fun e => ?_)
        refine ⟨fun _ => ⟨fun _ => hK _ _ _ _ _ ⟨N, tm, n, l, r, dn, dl, dr, An, ap, hT, hQ, hD, hM, hS'⟩, fun z => absurd rfl z⟩, fun z => absurd rfl z⟩
    · unfold wp_X5_why
      refine two_ok hM (fun _ _ _ _ _ _ => ?_) (fun z => absurd ⟨⟨a, ha, rfl⟩, b, hb, rfl⟩ z)
      exact ⟨fun z => absurd z hq, fun _ => ⟨fun _ => hK _ _ _ _ _ h00, fun z => absurd rfl z⟩⟩
  · refine ⟨fun _ => ?_, fun z => absurd rfl z⟩
    unfold wp_X5_why
    exact two_ok hM (fun a b ha hb ea eb => absurd ⟨⟨a, ha, ea⟩, b, hb, eb⟩ hbad) (fun _ => ⟨fun _ => hK _ _ _ _ _ h00, fun z => absurd rfl z⟩)
end C7

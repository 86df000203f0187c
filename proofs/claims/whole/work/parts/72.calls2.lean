/-! PURE: constant, apply, equate, back, differ -/
section C2
variable {S : SaS} {T : TeS} {Q D : PaS} {C : ClS} {E R Y : FoS} {M : MoS} {N : Nat} {tm : Nat → Option (Nat × Nat)} {n : Nat} {l r : Nat → Nat} {dn : Nat} {dl dr : Nat → Nat} {An : Nat} {ap : Nat → Nat}
theorem paA_up {cap : Nat} {P : PaS} (h : paA N cap P n l r) : paA (N + 1) cap P n l r := ⟨h.1, h.2.1, fun j hj => by have q := h.2.2 j hj; exact ⟨q.1, q.2.1, by omega, by omega⟩⟩
theorem L_constant (h : Sys S T Q D E R M) {K : SaS → TeS → MoS → Prop} {Z : Prop} (hK : ∀ S' T' M', Sys S' T' Q D E R M' → K S' T' M') : wp_X4_constant S T (fun r3 S4 T5 => wp_X5_constant M (fun r8 M9 => ((r3 = r8 → K S4 T5 M9) ∧ (¬ r3 = r8 → Z)))) := by
  obtain ⟨N, tm, n, l, r, dn, dl, dr, An, ap, hT, hQ, hD, hM, hS⟩ := h
  have hN := hT.2.1
  unfold wp_X4_constant wp_X4_forget
  show wp_X3_add T (-1 : Int32) (-1 : Int32) _
  unfold wp_X3_add wp_X5_constant
  rw [hT.1, hM.1]
  refine pk_lt N 250 (fun hlt => ?_) (fun hge => ?_)
  · intro x2 e2
    subst e2
    refine ⟨pk_in N 250 hlt, ?_⟩
    refine ⟨fun _ => ?_, fun z => absurd rfl z⟩
    refine pk_eq N 250 (fun z => by omega) (fun _ => ?_)
    unfold wp_X5_add
    rw [hM.1]
    refine ⟨pk_in N 250 hlt, ?_⟩
    rw [nI_clamp (show N < 2 ^ 31 by omega)]
    have e1 : nI N + (1 : Int32) = nI (N + 1) := nI_1 N
    have e2 : nI (N + 1) - (1 : Int32) = nI N := nI_pred N
    rw [e1, e2]
    refine ⟨fun _ => hK _ _ _ ?_, fun z => absurd rfl z⟩
    refine ⟨N + 1, tmx tm N none, n, l, r, dn, dl, dr, An, ap, teA_const hT hlt rfl rfl rfl rfl rfl, paA_up hQ, paA_up hD, ?_, SaI_forget E R⟩
    obtain ⟨m1, m2, m3, m4, m5, m6, m7, m8, m9, m10, m11, m12, m13, m14⟩ := hM
    refine ⟨rfl, by omega, fun j hj => ?_, m4, m5, fun j hj => by have q := m6 j hj; exact ⟨q.1, q.2.1, by omega, by omega⟩, m7, m8, fun j hj => by have q := m9 j hj; exact ⟨q.1, q.2.1, by omega, by omega⟩, m10, by omega, fun k hk => ?_, fun j a b hj hja => ?_, fun j a b hj hja => ?_⟩
    · show upd (mo_first M) N (-1) j = _ ∧ upd (mo_second M) N (-1) j = _
      by_cases c : j = N
      · subst c; rw [pk_us, pk_us, tmx_new rfl]; exact ⟨rfl, rfl⟩
      · rw [pk_un c, pk_un c, tmx_old c]; exact m3 j (by omega)
    · obtain ⟨q1, q2, a, b, q3⟩ := m12 k hk
      exact ⟨q1, by omega, a, b, by rw [tmx_old (by omega)]; exact q3⟩
    · by_cases c : j = N
      · rw [tmx_new c] at hja; cases hja
      · rw [tmx_old c] at hja; exact m13 j a b (by omega) hja
    · by_cases c : j = N
      · rw [tmx_new c] at hja; cases hja
      · rw [tmx_old c] at hja; exact m14 j a b (by omega) hja
  · refine pk_eq N 250 (fun _ => ?_) (fun z => by omega)
    refine ⟨fun _ => hK _ _ _ ⟨N, tm, n, l, r, dn, dl, dr, An, ap, hT, hQ, hD, hM, SaI_forget E R⟩, fun z => absurd rfl z⟩
theorem find_ok (hT : teA N tm T) {a b : Nat} (ha : a < N) (hb : b < N) {post : Int32 → Prop} (h1 : ∀ t, t < N → tm t = some (a, b) → post (nI t)) (h0 : (∀ t, t < N → tm t ≠ some (a, b)) → post (-1)) : wp_X3_find T (nI a) (nI b) post := by
  have hN := hT.2.1
  unfold wp_X3_find
  refine wl1_ind (fun l3 => ∃ t, l3 = nI t ∧ t ≤ N ∧ ∀ j, j < t → tm j ≠ some (a, b)) (fun l3 => 250 - l3.toNatClampNeg) ?_ _ ⟨0, rfl, Nat.zero_le _, fun j hj => absurd hj (Nat.not_lt_zero _)⟩
  rintro kb l3 ⟨t, rfl, ht, hno⟩ hk
  unfold B_X3_find_2
  rw [hT.1]
  refine pk_le N t (fun hle => h0 (fun j hj => hno j (by omega))) (fun hlt => ?_)
  refine ⟨pk_in t 250 (by omega), ?_⟩
  rw [nI_clamp (show t < 2 ^ 31 by omega), hT.2.2.1 t hlt, hT.2.2.2.1 t hlt]
  have hm : 250 - (nI t + 1).toNatClampNeg < 250 - (nI t).toNatClampNeg := by
    rw [nI_1, nI_clamp (by omega), nI_clamp (by omega)]
    omega
  have next : tm t ≠ some (a, b) → kb (nI t + 1) := fun hne => hk _ ⟨t + 1, nI_1 t, by omega, fun j hj => by
    by_cases c : j = t
    · rw [c]; exact hne
    · exact hno j (by omega)⟩ hm
  cases htt : tm t with
  | none =>
    refine ⟨fun z => absurd z.symm (nI_ne1 (by omega)), fun _ => next (by rw [htt]; intro z; cases z)⟩
  | some q =>
    obtain ⟨c, d⟩ := q
    have hcd := hT.2.2.2.2.1 t c d hlt htt
    show (nI c = nI a → (nI d = nI b → post (nI t)) ∧ (¬ nI d = nI b → kb (nI t + 1))) ∧ (¬ nI c = nI a → kb (nI t + 1))
    refine pk_eq c a (fun e1 => ?_) (fun e1 => next (by rw [htt]; intro z; cases z; exact e1 rfl))
    refine pk_eq d b (fun e2 => ?_) (fun e2 => next (by rw [htt]; intro z; cases z; exact e2 rfl))
    exact h1 t hlt (by rw [htt, e1, e2])
theorem L_apply (h : Sys S T Q D E R M) {x y : Int32} {K : SaS → TeS → MoS → Prop} {Z : Prop} (hK : ∀ S' T' M', Sys S' T' Q D E R M' → K S' T' M') : wp_X4_apply S T x y (fun r3 S4 T5 => wp_X5_apply M x y (fun r8 M9 => ((r3 = r8 → K S4 T5 M9) ∧ (¬ r3 = r8 → Z)))) := by
  have h00 := h
  obtain ⟨N, tm, n, l, r, dn, dl, dr, An, ap, hT, hQ, hD, hM, hS⟩ := h
  have hN := hT.2.1
  have hAn := hM.2.2.2.2.2.2.2.2.2.2.1
  unfold wp_X4_apply
  refine areTerms_ok hT (fun a b ha hb ea eb => ?_) (fun hbad => ?_)
  · subst ea; subst eb
    refine ⟨fun z => absurd z (by decide), fun _ => ?_⟩
    -- the reference's search
    have ref : ∀ (post : Int32 → MoS → Prop), (∀ t, t < N → tm t = some (a, b) → post (nI t) M) → ((∀ t, t < N → tm t ≠ some (a, b)) → K_X5_apply_21_68 M (nI a) (nI b) post (nI An)) → wp_X5_apply M (nI a) (nI b) post := by
      intro post hf hno
      unfold wp_X5_apply
      refine two_ok hM (fun a' b' _ _ _ _ => ?_) (fun z => absurd ⟨⟨a, ha, rfl⟩, b, hb, rfl⟩ z)
      refine wl1_ind (fun l3 => ∃ k, l3 = nI k ∧ k ≤ An ∧ ∀ j, j < k → tm (ap j) ≠ some (a, b)) (fun l3 => 250 - l3.toNatClampNeg) ?_ _ ⟨0, rfl, Nat.zero_le _, fun j hj => absurd hj (Nat.not_lt_zero _)⟩
      rintro kb l3 ⟨k, rfl, hk1, hnok⟩ hk
      unfold B_X5_apply_21
      rw [hM.2.2.2.2.2.2.2.2.2.1]
      refine pk_le An k (fun hle => ?_) (fun hlt => ?_)
      · have e1 : k = An := by omega
        subst e1
        refine hno (fun t ht htt => ?_)
        obtain ⟨j, hj, ej⟩ := hM.2.2.2.2.2.2.2.2.2.2.2.2.1 t a b ht htt
        exact hnok j hj (by rw [ej]; exact htt)
      · refine ⟨pk_in k 250 (by omega), ?_⟩
        rw [nI_clamp (show k < 2 ^ 31 by omega)]
        obtain ⟨q1, q2, c, d, q3⟩ := hM.2.2.2.2.2.2.2.2.2.2.2.1 k hlt
        have hcd := hM.2.2.2.2.2.2.2.2.2.2.2.2.2 (ap k) c d q2 q3
        intro x11 e11
        have e11 : x11 = nI (ap k) := e11.trans q1
        subst e11
        refine ⟨pk_in (ap k) 250 (by omega), ?_⟩
        have hm : 250 - (nI k + 1).toNatClampNeg < 250 - (nI k).toNatClampNeg := by
          rw [nI_1, nI_clamp (by omega), nI_clamp (by omega)]
          omega
        have next : tm (ap k) ≠ some (a, b) → kb (nI k + 1) := fun hne => hk _ ⟨k + 1, nI_1 k, by omega, fun j hj => by
          by_cases c : j = k
          · rw [c]; exact hne
          · exact hnok j (by omega)⟩ hm
        have ft : mo_first M (ap k) = nI c := by have := (hM.2.2.1 (ap k) q2).1; rw [q3] at this; exact this
        have st : mo_second M (ap k) = nI d := by have := (hM.2.2.1 (ap k) q2).2; rw [q3] at this; exact this
        rw [nI_clamp (show ap k < 2 ^ 31 by omega), ft, st]
        refine pk_eq c a (fun e1 => ?_) (fun e1 => next (by rw [q3]; intro z; cases z; exact e1 rfl))
        refine pk_eq d b (fun e2 => ?_) (fun e2 => next (by rw [q3]; intro z; cases z; exact e2 rfl))
        exact hf (ap k) q2 (by rw [q3, e1, e2])
    refine find_ok hT ha hb (fun t ht htt => ?_) (fun hno => ?_)
    · refine ⟨fun z => absurd z (nI_ne1 (by omega)), fun _ => ?_⟩
      refine ref _ (fun t' ht' htt' => ?_) (fun hno => absurd htt (hno t ht))
      have e1 := hT.2.2.2.2.2.1 t t' _ ht ht' htt htt'
      subst e1
      exact ⟨fun _ => hK _ _ _ h00, fun z => absurd rfl z⟩
    · refine ⟨fun _ => ?_, fun z => absurd rfl z⟩
      unfold wp_X4_forget
      show wp_X3_add T (nI a) (nI b) _
      unfold wp_X3_add
      rw [hT.1]
      refine pk_lt N 250 (fun hlt => ?_) (fun hge => ?_)
      · intro x2 e2
        subst e2
        refine ⟨pk_in N 250 hlt, ?_⟩
        refine ⟨fun z => absurd z (nI_ne1 (by omega)), fun _ => ⟨fun z => absurd z (nI_ne1 (by omega)), fun _ => ?_⟩⟩
        rw [show (2 : Int32) * nI N = nI (2 * N) from pk_mul 2 N, show nI (2 * N) + (1 : Int32) = nI (2 * N + 1) from nI_1 (2 * N)]
        have cN : (nI N).toNatClampNeg = N := nI_clamp (by omega)
        have ca : (nI a).toNatClampNeg = a := nI_clamp (by omega)
        have cb : (nI b).toNatClampNeg = b := nI_clamp (by omega)
        have c2 : (nI (2 * N)).toNatClampNeg = 2 * N := nI_clamp (by omega)
        have c3 : (nI (2 * N + 1)).toNatClampNeg = 2 * N + 1 := nI_clamp (by omega)
        unfold wp_X3_use
        simp only [cN, ca, cb, c2, c3]
        refine ⟨pk_in a 250 (by omega), pk_in (2 * N) 500 (by omega), pk_in b 250 (by omega), pk_in (2 * N + 1) 500 (by omega), ?_⟩
        refine ref _ (fun t ht htt => absurd htt (hno t ht)) (fun _ => ?_)
        unfold K_X5_apply_21_68
        have hm0 := hM.1
        have hmA := hM.2.2.2.2.2.2.2.2.2.1
        rw [hm0]
        refine pk_eq N 250 (fun z => by omega) (fun _ => ?_)
        rw [hmA]
        refine ⟨pk_in An 250 (by omega), ?_⟩
        unfold wp_X5_add
        show vp_in (mo_terms M) 250 ∧ ((nI N = (mo_terms M + (1 : Int32)) - (1 : Int32) → K _ _ (mo_s_second (mo_s_first (mo_s_terms (mo_s_applied (mo_s_applications M (upd (mo_applications M) (nI An).toNatClampNeg (nI N))) (nI An + (1 : Int32))) (mo_terms M + (1 : Int32))) (upd (mo_first M) (mo_terms M).toNatClampNeg (nI a))) (upd (mo_second M) (mo_terms M).toNatClampNeg (nI b)))) ∧ (¬ nI N = (mo_terms M + (1 : Int32)) - (1 : Int32) → Z))
        rw [hm0, cN, nI_clamp (show An < 2 ^ 31 by omega), show nI An + (1 : Int32) = nI (An + 1) from nI_1 An, show nI N + (1 : Int32) = nI (N + 1) from nI_1 N, show nI (N + 1) - (1 : Int32) = nI N from nI_pred N]
        refine ⟨pk_in N 250 hlt, fun _ => hK _ _ _ ?_, fun z => absurd rfl z⟩
        refine ⟨N + 1, tmx tm N (some (a, b)), n, l, r, dn, dl, dr, An + 1, fun k => if k = An then N else ap k, teA_app hT hlt ha hb hno rfl rfl rfl rfl rfl, paA_up hQ, paA_up hD, ?_, SaI_forget E R⟩
        obtain ⟨m1, m2, m3, m4, m5, m6, m7, m8, m9, m10, m11, m12, m13, m14⟩ := hM
        refine ⟨rfl, by omega, fun j hj => ?_, m4, m5, fun j hj => by have q := m6 j hj; exact ⟨q.1, q.2.1, by omega, by omega⟩, m7, m8, fun j hj => by have q := m9 j hj; exact ⟨q.1, q.2.1, by omega, by omega⟩, rfl, by omega, fun k hk => ?_, fun j a' b' hj hja => ?_, fun j a' b' hj hja => ?_⟩
        · show upd (mo_first M) N (nI a) j = _ ∧ upd (mo_second M) N (nI b) j = _
          by_cases c : j = N
          · subst c; rw [pk_us, pk_us, tmx_new rfl]; exact ⟨rfl, rfl⟩
          · rw [pk_un c, pk_un c, tmx_old c]; exact m3 j (by omega)
        · show upd (mo_applications M) An (nI N) k = nI (if k = An then N else ap k) ∧ (if k = An then N else ap k) < N + 1 ∧ ∃ a' b', tmx tm N (some (a, b)) (if k = An then N else ap k) = some (a', b')
          by_cases c : k = An
          · subst c; rw [pk_us]; simp only [if_true]; exact ⟨trivial, by omega, a, b, tmx_new rfl⟩
          · rw [pk_un c, if_neg c]
            obtain ⟨q1, q2, a', b', q3⟩ := m12 k (by omega)
            exact ⟨q1, by omega, a', b', by rw [tmx_old (by omega)]; exact q3⟩
        · by_cases c : j = N
          · exact ⟨An, by omega, by rw [c]; exact if_pos rfl⟩
          · rw [tmx_old c] at hja
            obtain ⟨k, hk, ek⟩ := m13 j a' b' (by omega) hja
            exact ⟨k, by omega, (if_neg (by omega)).trans ek⟩
        · by_cases c : j = N
          · rw [tmx_new c] at hja; cases hja; omega
          · rw [tmx_old c] at hja; exact m14 j a' b' (by omega) hja
      · refine ref _ (fun t ht htt => absurd htt (hno t ht)) (fun _ => ?_)
        unfold K_X5_apply_21_68
        rw [hM.1]
        refine pk_eq N 250 (fun _ => ?_) (fun z => by omega)
        exact ⟨fun _ => hK _ _ _ ⟨N, tm, n, l, r, dn, dl, dr, An, ap, hT, hQ, hD, hM, SaI_forget E R⟩, fun z => absurd rfl z⟩
  · refine ⟨fun _ => ?_, fun z => absurd rfl z⟩
    unfold wp_X5_apply
    refine two_ok hM (fun a b ha hb ea eb => absurd ⟨⟨a, ha, ea⟩, b, hb, eb⟩ hbad) (fun _ => ⟨fun _ => hK _ _ _ h00, fun z => absurd rfl z⟩)
end C2

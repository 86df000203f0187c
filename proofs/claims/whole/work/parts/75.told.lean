/-! PURE: told, count, round -/
section C5
variable {S : SaS} {T : TeS} {Q D : PaS} {C : ClS} {E R Y : FoS} {M : MoS} {N : Nat} {tm : Nat → Option (Nat × Nat)} {n : Nat} {l r : Nat → Nat} {dn : Nat} {dl dr : Nat → Nat} {An : Nat} {ap : Nat → Nat}
theorem told_0 (hM : moA N tm n l r dn dl dr An ap M) {x : Int32} {post : Int32 → Prop} (h1 : ∀ a, a < N → x = nI a → post (mo_first M a)) (h0 : (∀ a, a < N → x ≠ nI a) → post (-1)) : wp_X5_told M x (0 : Int32) post := by
  have hN := hM.2.1
  have hn := hM.2.2.2.2.1
  have hd := hM.2.2.2.2.2.2.2.1
  have hcn : mo_terms M = nI N := hM.1
  unfold wp_X5_told
  show wp_X5_in (0 : Int32) (0 : Int32) (5 : Int32) _
  refine ⟨fun z => absurd z (by decide), fun _ => ⟨fun z => absurd z (by decide), fun _ => ?_⟩⟩
  refine ⟨fun z => absurd z (by decide), fun _ => ?_⟩
  refine ⟨fun z => absurd z (by decide), fun _ => ?_⟩
  intro x5 e5
  have e5 : x5 = nI N := e5.trans hcn
  subst e5
  refine in_ok (by omega) (fun a ha ea => ?_) (fun hno => ⟨fun _ => h0 hno, fun z => absurd rfl z⟩)
  refine ⟨fun z => absurd z (by decide), fun _ => ?_⟩
  have hq := h1 a ha ea
  subst ea
  have hcl : (nI a).toNatClampNeg = a := nI_clamp (by omega)
  exact ⟨fun _ => ⟨pk_in a 250 (by omega), by rw [hcl]; exact hq⟩, fun z => absurd z (by decide), fun z => absurd z (by decide), fun z => absurd z (by decide), fun z => absurd z (by decide), fun z => absurd z (by decide)⟩
theorem told_1 (hM : moA N tm n l r dn dl dr An ap M) {x : Int32} {post : Int32 → Prop} (h1 : ∀ a, a < N → x = nI a → post (mo_second M a)) (h0 : (∀ a, a < N → x ≠ nI a) → post (-1)) : wp_X5_told M x (1 : Int32) post := by
  have hN := hM.2.1
  have hn := hM.2.2.2.2.1
  have hd := hM.2.2.2.2.2.2.2.1
  have hcn : mo_terms M = nI N := hM.1
  unfold wp_X5_told
  show wp_X5_in (1 : Int32) (0 : Int32) (5 : Int32) _
  refine ⟨fun z => absurd z (by decide), fun _ => ⟨fun z => absurd z (by decide), fun _ => ?_⟩⟩
  refine ⟨fun z => absurd z (by decide), fun _ => ?_⟩
  refine ⟨fun z => absurd z (by decide), fun _ => ?_⟩
  intro x5 e5
  have e5 : x5 = nI N := e5.trans hcn
  subst e5
  refine in_ok (by omega) (fun a ha ea => ?_) (fun hno => ⟨fun _ => h0 hno, fun z => absurd rfl z⟩)
  refine ⟨fun z => absurd z (by decide), fun _ => ?_⟩
  have hq := h1 a ha ea
  subst ea
  have hcl : (nI a).toNatClampNeg = a := nI_clamp (by omega)
  exact ⟨fun z => absurd z (by decide), fun _ => ⟨pk_in a 250 (by omega), by rw [hcl]; exact hq⟩, fun z => absurd z (by decide), fun z => absurd z (by decide), fun z => absurd z (by decide), fun z => absurd z (by decide)⟩
theorem told_2 (hM : moA N tm n l r dn dl dr An ap M) {x : Int32} {post : Int32 → Prop} (h1 : ∀ a, a < n → x = nI a → post (mo_left M a)) (h0 : (∀ a, a < n → x ≠ nI a) → post (-1)) : wp_X5_told M x (2 : Int32) post := by
  have hN := hM.2.1
  have hn := hM.2.2.2.2.1
  have hd := hM.2.2.2.2.2.2.2.1
  have hcn : mo_equations M = nI n := hM.2.2.2.1
  unfold wp_X5_told
  show wp_X5_in (2 : Int32) (0 : Int32) (5 : Int32) _
  refine ⟨fun z => absurd z (by decide), fun _ => ⟨fun z => absurd z (by decide), fun _ => ?_⟩⟩
  refine ⟨fun z => absurd z (by decide), fun _ => ?_⟩
  refine ⟨fun _ => ⟨fun z => absurd z (by decide), fun _ => ?_⟩, fun z => absurd (by decide) z⟩
  intro x5 e5
  have e5 : x5 = nI n := e5.trans hcn
  subst e5
  refine in_ok (by omega) (fun a ha ea => ?_) (fun hno => ⟨fun _ => h0 hno, fun z => absurd rfl z⟩)
  refine ⟨fun z => absurd z (by decide), fun _ => ?_⟩
  have hq := h1 a ha ea
  subst ea
  have hcl : (nI a).toNatClampNeg = a := nI_clamp (by omega)
  exact ⟨fun z => absurd z (by decide), fun z => absurd z (by decide), fun _ => ⟨pk_in a 60 (by omega), by rw [hcl]; exact hq⟩, fun z => absurd z (by decide), fun z => absurd z (by decide), fun z => absurd z (by decide)⟩
theorem told_3 (hM : moA N tm n l r dn dl dr An ap M) {x : Int32} {post : Int32 → Prop} (h1 : ∀ a, a < n → x = nI a → post (mo_right M a)) (h0 : (∀ a, a < n → x ≠ nI a) → post (-1)) : wp_X5_told M x (3 : Int32) post := by
  have hN := hM.2.1
  have hn := hM.2.2.2.2.1
  have hd := hM.2.2.2.2.2.2.2.1
  have hcn : mo_equations M = nI n := hM.2.2.2.1
  unfold wp_X5_told
  show wp_X5_in (3 : Int32) (0 : Int32) (5 : Int32) _
  refine ⟨fun z => absurd z (by decide), fun _ => ⟨fun z => absurd z (by decide), fun _ => ?_⟩⟩
  refine ⟨fun z => absurd z (by decide), fun _ => ?_⟩
  refine ⟨fun _ => ⟨fun z => absurd z (by decide), fun _ => ?_⟩, fun z => absurd (by decide) z⟩
  intro x5 e5
  have e5 : x5 = nI n := e5.trans hcn
  subst e5
  refine in_ok (by omega) (fun a ha ea => ?_) (fun hno => ⟨fun _ => h0 hno, fun z => absurd rfl z⟩)
  refine ⟨fun z => absurd z (by decide), fun _ => ?_⟩
  have hq := h1 a ha ea
  subst ea
  have hcl : (nI a).toNatClampNeg = a := nI_clamp (by omega)
  exact ⟨fun z => absurd z (by decide), fun z => absurd z (by decide), fun z => absurd z (by decide), fun _ => ⟨pk_in a 60 (by omega), by rw [hcl]; exact hq⟩, fun z => absurd z (by decide), fun z => absurd z (by decide)⟩
theorem told_4 (hM : moA N tm n l r dn dl dr An ap M) {x : Int32} {post : Int32 → Prop} (h1 : ∀ a, a < dn → x = nI a → post (mo_one M a)) (h0 : (∀ a, a < dn → x ≠ nI a) → post (-1)) : wp_X5_told M x (4 : Int32) post := by
  have hN := hM.2.1
  have hn := hM.2.2.2.2.1
  have hd := hM.2.2.2.2.2.2.2.1
  have hcn : mo_differences M = nI dn := hM.2.2.2.2.2.2.1
  unfold wp_X5_told
  show wp_X5_in (4 : Int32) (0 : Int32) (5 : Int32) _
  refine ⟨fun z => absurd z (by decide), fun _ => ⟨fun z => absurd z (by decide), fun _ => ?_⟩⟩
  refine ⟨fun z => absurd z (by decide), fun _ => ?_⟩
  refine ⟨fun _ => ⟨fun _ => ?_, fun z => absurd (by decide) z⟩, fun z => absurd (by decide) z⟩
  intro x5 e5
  have e5 : x5 = nI dn := e5.trans hcn
  subst e5
  refine in_ok (by omega) (fun a ha ea => ?_) (fun hno => ⟨fun _ => h0 hno, fun z => absurd rfl z⟩)
  refine ⟨fun z => absurd z (by decide), fun _ => ?_⟩
  have hq := h1 a ha ea
  subst ea
  have hcl : (nI a).toNatClampNeg = a := nI_clamp (by omega)
  exact ⟨fun z => absurd z (by decide), fun z => absurd z (by decide), fun z => absurd z (by decide), fun z => absurd z (by decide), fun _ => ⟨pk_in a 30 (by omega), by rw [hcl]; exact hq⟩, fun z => absurd z (by decide)⟩
theorem told_5 (hM : moA N tm n l r dn dl dr An ap M) {x : Int32} {post : Int32 → Prop} (h1 : ∀ a, a < dn → x = nI a → post (mo_other M a)) (h0 : (∀ a, a < dn → x ≠ nI a) → post (-1)) : wp_X5_told M x (5 : Int32) post := by
  have hN := hM.2.1
  have hn := hM.2.2.2.2.1
  have hd := hM.2.2.2.2.2.2.2.1
  have hcn : mo_differences M = nI dn := hM.2.2.2.2.2.2.1
  unfold wp_X5_told
  show wp_X5_in (5 : Int32) (0 : Int32) (5 : Int32) _
  refine ⟨fun z => absurd z (by decide), fun _ => ⟨fun z => absurd z (by decide), fun _ => ?_⟩⟩
  refine ⟨fun z => absurd z (by decide), fun _ => ?_⟩
  refine ⟨fun _ => ⟨fun _ => ?_, fun z => absurd (by decide) z⟩, fun z => absurd (by decide) z⟩
  intro x5 e5
  have e5 : x5 = nI dn := e5.trans hcn
  subst e5
  refine in_ok (by omega) (fun a ha ea => ?_) (fun hno => ⟨fun _ => h0 hno, fun z => absurd rfl z⟩)
  refine ⟨fun z => absurd z (by decide), fun _ => ?_⟩
  have hq := h1 a ha ea
  subst ea
  have hcl : (nI a).toNatClampNeg = a := nI_clamp (by omega)
  exact ⟨fun z => absurd z (by decide), fun z => absurd z (by decide), fun z => absurd z (by decide), fun z => absurd z (by decide), fun z => absurd z (by decide), fun _ => ⟨pk_in a 30 (by omega), by rw [hcl]; exact hq⟩⟩
theorem L_told (h : Sys S T Q D E R M) {x y : Int32} {K Z : Prop} (hK : K) : wp_X4_told S T Q D x y (fun r3 => wp_X5_told M x y (fun r8 => ((r3 = r8 → K) ∧ (¬ r3 = r8 → Z)))) := by
  obtain ⟨N, tm, n, l, r, dn, dl, dr, An, ap, hT, hQ, hD, hM, hS⟩ := h
  have hN := hT.2.1
  have hn := hQ.2.1
  have hd := hD.2.1
  have fin : ∀ q1 q2 : Int32, q1 = q2 → ((q1 = q2 → K) ∧ (¬ q1 = q2 → Z)) := fun q1 q2 e => ⟨fun _ => hK, fun z => absurd e z⟩
  unfold wp_X4_told
  refine ⟨?_, ?_, ?_, ?_, ?_, ?_, ?_⟩
  · intro hy
    have ey : y = (0 : Int32) := Int32.toInt_inj.mp (by rw [hy]; decide)
    subst ey
    refine has_ok hT (fun a ha ea => ?_) (fun hno => ?_)
    · refine ⟨fun z => absurd z (by decide), fun _ => ⟨?_, ?_⟩⟩
      · rw [ea]; exact pk_in a 250 (by omega)
      · refine told_0 hM (fun a2 ha2 ea2 => ?_) (fun hno => absurd ea (hno a ha))
        have e : a = a2 := nI_inj (by omega) (by omega) (ea.symm.trans ea2)
        subst e
        rw [ea, nI_clamp (show a < 2 ^ 31 by omega)]
        exact fin _ _ (by rw [hT.2.2.1 a ha, (hM.2.2.1 a ha).1])
    · refine ⟨fun _ => ?_, fun z => absurd rfl z⟩
      exact told_0 hM (fun a ha ea => absurd ea (hno a ha)) (fun _ => fin _ _ rfl)
  · intro hy
    have ey : y = (1 : Int32) := Int32.toInt_inj.mp (by rw [hy]; decide)
    subst ey
    refine has_ok hT (fun a ha ea => ?_) (fun hno => ?_)
    · refine ⟨fun z => absurd z (by decide), fun _ => ⟨?_, ?_⟩⟩
      · rw [ea]; exact pk_in a 250 (by omega)
      · refine told_1 hM (fun a2 ha2 ea2 => ?_) (fun hno => absurd ea (hno a ha))
        have e : a = a2 := nI_inj (by omega) (by omega) (ea.symm.trans ea2)
        subst e
        rw [ea, nI_clamp (show a < 2 ^ 31 by omega)]
        exact fin _ _ (by rw [hT.2.2.2.1 a ha, (hM.2.2.1 a ha).2])
    · refine ⟨fun _ => ?_, fun z => absurd rfl z⟩
      exact told_1 hM (fun a ha ea => absurd ea (hno a ha)) (fun _ => fin _ _ rfl)
  · intro hy
    have ey : y = (2 : Int32) := Int32.toInt_inj.mp (by rw [hy]; decide)
    subst ey
    refine phas_ok (Nat.le_refl _) hQ (fun a ha ea => ?_) (fun hno => ?_)
    · refine ⟨fun z => absurd z (by decide), fun _ => ⟨?_, ?_⟩⟩
      · rw [ea]; exact pk_in a 60 (by omega)
      · refine told_2 hM (fun a2 ha2 ea2 => ?_) (fun hno => absurd ea (hno a ha))
        have e : a = a2 := nI_inj (by omega) (by omega) (ea.symm.trans ea2)
        subst e
        rw [ea, nI_clamp (show a < 2 ^ 31 by omega)]
        exact fin _ _ (by rw [(hQ.2.2 a ha).1, (hM.2.2.2.2.2.1 a ha).1])
    · refine ⟨fun _ => ?_, fun z => absurd rfl z⟩
      exact told_2 hM (fun a ha ea => absurd ea (hno a ha)) (fun _ => fin _ _ rfl)
  · intro hy
    have ey : y = (3 : Int32) := Int32.toInt_inj.mp (by rw [hy]; decide)
    subst ey
    refine phas_ok (Nat.le_refl _) hQ (fun a ha ea => ?_) (fun hno => ?_)
    · refine ⟨fun z => absurd z (by decide), fun _ => ⟨?_, ?_⟩⟩
      · rw [ea]; exact pk_in a 60 (by omega)
      · refine told_3 hM (fun a2 ha2 ea2 => ?_) (fun hno => absurd ea (hno a ha))
        have e : a = a2 := nI_inj (by omega) (by omega) (ea.symm.trans ea2)
        subst e
        rw [ea, nI_clamp (show a < 2 ^ 31 by omega)]
        exact fin _ _ (by rw [(hQ.2.2 a ha).2.1, (hM.2.2.2.2.2.1 a ha).2.1])
    · refine ⟨fun _ => ?_, fun z => absurd rfl z⟩
      exact told_3 hM (fun a ha ea => absurd ea (hno a ha)) (fun _ => fin _ _ rfl)
  · intro hy
    have ey : y = (4 : Int32) := Int32.toInt_inj.mp (by rw [hy]; decide)
    subst ey
    refine phas_ok (by decide) hD (fun a ha ea => ?_) (fun hno => ?_)
    · refine ⟨fun z => absurd z (by decide), fun _ => ⟨?_, ?_⟩⟩
      · rw [ea]; exact pk_in a 30 (by omega)
      · refine told_4 hM (fun a2 ha2 ea2 => ?_) (fun hno => absurd ea (hno a ha))
        have e : a = a2 := nI_inj (by omega) (by omega) (ea.symm.trans ea2)
        subst e
        rw [ea, nI_clamp (show a < 2 ^ 31 by omega)]
        exact fin _ _ (by rw [(hD.2.2 a ha).1, (hM.2.2.2.2.2.2.2.2.1 a ha).1])
    · refine ⟨fun _ => ?_, fun z => absurd rfl z⟩
      exact told_4 hM (fun a ha ea => absurd ea (hno a ha)) (fun _ => fin _ _ rfl)
  · intro hy
    have ey : y = (5 : Int32) := Int32.toInt_inj.mp (by rw [hy]; decide)
    subst ey
    refine phas_ok (by decide) hD (fun a ha ea => ?_) (fun hno => ?_)
    · refine ⟨fun z => absurd z (by decide), fun _ => ⟨?_, ?_⟩⟩
      · rw [ea]; exact pk_in a 30 (by omega)
      · refine told_5 hM (fun a2 ha2 ea2 => ?_) (fun hno => absurd ea (hno a ha))
        have e : a = a2 := nI_inj (by omega) (by omega) (ea.symm.trans ea2)
        subst e
        rw [ea, nI_clamp (show a < 2 ^ 31 by omega)]
        exact fin _ _ (by rw [(hD.2.2 a ha).2.1, (hM.2.2.2.2.2.2.2.2.1 a ha).2.1])
    · refine ⟨fun _ => ?_, fun z => absurd rfl z⟩
      exact told_5 hM (fun a ha ea => absurd ea (hno a ha)) (fun _ => fin _ _ rfl)
  · intro hy
    unfold wp_X5_told wp_X5_in
    have e5 : ((5 : Int32)).toInt = 5 := by decide
    have e0 : ((0 : Int32)).toInt = 0 := by decide
    refine ⟨fun _ => ⟨fun _ => fin _ _ rfl, fun z => absurd rfl z⟩, fun h0 => ⟨fun _ => ⟨fun _ => fin _ _ rfl, fun z => absurd rfl z⟩, fun h5 => ?_⟩⟩
    rw [Int32.lt_iff_toInt_lt, e0] at h0
    rw [Int32.lt_iff_toInt_lt, e5] at h5
    omega
end C5

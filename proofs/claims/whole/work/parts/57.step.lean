/-! PURE: step, settle, begin -/
/-- between steps: nothing is loose; e pairs are expected -/
def CS (N : Nat) (tm : Nat → Option (Nat × Nat)) (C : ClS) (F : FoS) (G : Nat → Nat → Nat) (now e : Nat) (p1 p2 : Nat → Nat) (trees : Nat) : Prop := ∃ lo, phA N tm C F G now e p1 p2 0 0 lo trees
theorem Cl_tp {N : Nat} {tp : Nat → Nat} {p1 p2 : Nat → Nat} {i e : Nat} (hi : e ≤ i) {u w : Nat} (hu : u < N) (hw : w < N) : Cl (rr N tp (Pn p1 p2 i e)) u w ↔ tp u = tp w := by
  constructor
  · intro h
    have q := h (fun a b => a = b ∨ (a < N ∧ b < N ∧ tp a = tp b)) ⟨fun a => Or.inl rfl, fun a b hab => ?_, fun a b c hab hbc => ?_⟩ (fun a b hab => ?_)
    · rcases q with q | q
      · rw [q]
      · exact q.2.2
    · rcases hab with q | q
      · exact Or.inl q.symm
      · exact Or.inr ⟨q.2.1, q.1, q.2.2.symm⟩
    · rcases hab with q | q
      · rw [q]; exact hbc
      · rcases hbc with r | r
        · rw [← r]; exact Or.inr q
        · exact Or.inr ⟨q.1, r.2.1, q.2.2.trans r.2.2⟩
    · rcases hab with q | ⟨j, j1, j2, -⟩
      · exact Or.inr q
      · omega
  · exact fun h => Cl_sub (Or.inl ⟨hu, hw, h⟩)
section SE
variable {N : Nat} {tm : Nat → Option (Nat × Nat)} {T : TeS} {C : ClS} {F : FoS} {G : Nat → Nat → Nat} {now e : Nat} {p1 p2 : Nat → Nat} {trees : Nat}
/-- the loose ones, one by one, go back into the table -/
theorem stepB_ok (hT : teA N tm T) {n : Nat} {lo : Nat → Nat} {up jt mem low nxt : Nat → Nat} (hA : frA N F up jt mem low nxt trees now) (hI : frI N up jt mem low nxt trees G now) {p1 p2 : Nat → Nat} {C : ClS} {ch : Nat → List Nat} {sg : Nat → Nat} (hpd : pdA N C 0 p1 p2) (hlo : loA C n lo) (hinj : ∀ a b, a < n → b < n → lo a = lo b → a = b) (hnN : n ≤ N)
    (hB : tbI N tm C ch sg (G now) (fun x => ∃ a, a < n ∧ lo a = x) (Cl (rr N (G now) (Pn p1 p2 0 0))) (apD N tm) (fun _ => False)) {post : ClS → FoS → Prop}
    (hp : ∀ C' e' p1' p2', e' ≤ n → (∀ j, j < e' → cg N tm (eqT (G now)) (p1' j) (p2' j)) → CS N tm C' F G now e' p1' p2' trees → post C' F) : ∃ k : Nat, wl2 (B_X0_step_35 T F (K_X0_step_35_74 F post)) k (0 : Int32) C := by
  have hN : N ≤ 250 := hT.2.1
  refine wl2_ind (fun l4 C => ∃ i e p1 p2 ch sg, l4 = nI i ∧ i ≤ n ∧ e ≤ i ∧ pdA N C e p1 p2 ∧ loA C n lo ∧ (∀ j, j < e → cg N tm (eqT (G now)) (p1 j) (p2 j)) ∧ tbI N tm C ch sg (G now) (fun x => ∃ a, i ≤ a ∧ a < n ∧ lo a = x) (Cl (rr N (G now) (Pn p1 p2 0 e))) (apD N tm) (fun _ => False)) (fun l4 _ => 251 - l4.toNatClampNeg) ?_ _ _ ⟨0, 0, p1, p2, ch, sg, rfl, Nat.zero_le _, Nat.le_refl _, hpd, hlo, fun j hj => absurd hj (Nat.not_lt_zero _), tbI_LO hB (fun u => ⟨fun ⟨a, h1, h2⟩ => ⟨a, Nat.zero_le _, h1, h2⟩, fun ⟨a, _, h1, h2⟩ => ⟨a, h1, h2⟩⟩) (fun _ => Iff.rfl)⟩
  rintro kb l4 C ⟨i, e, p1, p2, ch, sg, rfl, hi, hei, hpd, hlo, hcg, hB⟩ hk
  unfold B_X0_step_35
  rw [hlo.1]
  refine pk_le n i (fun h => ?_) (fun h => ?_)
  · have e1 : i = n := by omega
    subst e1
    refine hp _ e p1 p2 hei hcg ⟨lo, up, jt, mem, low, nxt, ch, sg, hA, hI, ⟨hpd.1, hpd.2.1, hpd.2.2⟩, ⟨rfl, by omega, fun j hj => absurd hj (Nat.not_lt_zero _)⟩, fun a b ha => absurd ha (Nat.not_lt_zero _), fun a ha => absurd ha (Nat.not_lt_zero _), ?_, ?_⟩
    · rw [Nat.zero_add]; exact cnt_le _ _
    · refine tbI_C (tbI_LO hB (fun u => ⟨fun ⟨a, h1, h2, _⟩ => by omega, fun ⟨a, h1, _⟩ => absurd h1 (Nat.not_lt_zero _)⟩) (fun _ => Iff.rfl)) rfl rfl rfl rfl
  · refine ⟨pk_in i 250 (by omega), ?_⟩
    rw [nI_clamp (show i < 2 ^ 31 by omega), hlo.2.2 i h]
    have hL : ∃ a, i ≤ a ∧ a < n ∧ lo a = lo i := ⟨i, Nat.le_refl _, h, rfl⟩
    refine takeOut_ok hN hB hL (fun C3 ch3 hB3 hx3 g1 g2 g3 g4 g5 g6 => ?_)
    rw [g5, hlo.2.2 i h]
    have hxin := (hB.2.2.2.2.2.1 (lo i) hL)
    obtain ⟨hxN, a, b, hxt⟩ := hB.2.2.1 (lo i) (hB.2.1 (lo i) hxin.1)
    have hns : ¬ Stn C3 (lo i) := by unfold Stn; rw [g1]; exact hxin.2.1
    refine place_ok hT hA hI hxN hxt hB3 ⟨by rw [g2]; exact hpd.1, hpd.2.1, fun j hj => by rw [g3, g4]; exact hpd.2.2 j hj⟩ (by omega) hx3 (fun q => absurd q hns) (fun C4 e4 q1 q2 ch4 sg4 hpd4 hsame hnew hB4 g7 g8 => ?_)
    refine hk _ _ ⟨i + 1, e4, q1, q2, ch4, sg4, nI_1 i, by omega, by omega, hpd4, ⟨by rw [g8, g6]; exact hlo.1, hlo.2.1, fun j hj => by rw [g7, g5]; exact hlo.2.2 j hj⟩, fun j hj => ?_, ?_⟩ ?_
    · by_cases c : j < e
      · rw [(hsame j c).1, (hsame j c).2]; exact hcg j c
      · rcases hnew with z | ⟨z1, z2, z3, z4⟩
        · omega
        · have ej : j = e := by omega
          subst ej
          rw [z2]
          exact z4
    · refine tbI_LO hB4 (fun u => ⟨?_, ?_⟩) (fun u => ⟨?_, ?_⟩)
      · rintro ⟨⟨a, a1, a2, a3⟩, hne⟩
        refine ⟨a, ?_, a2, a3⟩
        have : a ≠ i := fun z => hne (by rw [← a3, z])
        omega
      · rintro ⟨a, a1, a2, a3⟩
        refine ⟨⟨a, by omega, a2, a3⟩, fun z => ?_⟩
        have := hinj a i a2 h (a3.trans z)
        omega
      · rintro (z | z)
        · exact z.1
        · rw [z]; exact ⟨hxN, a, b, hxt⟩
      · intro z
        by_cases c : u = lo i
        · exact Or.inr c
        · exact Or.inl ⟨z, c⟩
    · rw [nI_1, nI_clamp (by omega), nI_clamp (by omega)]
      omega
theorem step_ok (hT : teA N tm T) (h : CS N tm C F G now e p1 p2 trees) {t : Nat} (ht : now ≤ t) (htn : t < 1000000) {post : ClS → FoS → Prop}
    (hp : ∀ C' F' G' now' e' p1' p2' trees', CS N tm C' F' G' now' e' p1' p2' trees' → now' ≤ t → (∀ τ x, τ < t → G' τ x = G τ x) → (∀ u w, u < N → w < N → (G' now' u = G' now' w ↔ Cl (rr N (G now) (Pn p1 p2 0 e)) u w)) → (∀ j, j < e' → cg N tm (eqT (G' now')) (p1' j) (p2' j)) → (trees' < trees ∨ e' = 0) → e' ≤ 250 → post C' F') : wp_X0_step T C F (nI t) post := by
  have hN : N ≤ 250 := hT.2.1
  obtain ⟨lo, h⟩ := h
  unfold wp_X0_step
  refine wl3_ind (fun l4 C F => ∃ i G' now' n lo tr, l4 = nI i ∧ i ≤ e ∧ phA N tm C F G' now' e p1 p2 i n lo tr ∧ now' ≤ t ∧ (∀ τ x, τ < t → G' τ x = G τ x) ∧ (∀ u w, Cl (rr N (G' now') (Pn p1 p2 i e)) u w ↔ Cl (rr N (G now) (Pn p1 p2 0 e)) u w) ∧ (tr < trees ∨ (tr = trees ∧ n = 0))) (fun l4 _ _ => 311 - l4.toNatClampNeg) ?_ _ _ _ ⟨0, G, now, 0, lo, trees, rfl, Nat.zero_le _, h, ht, fun _ _ _ => rfl, fun _ _ => Iff.rfl, Or.inr ⟨rfl, rfl⟩⟩
  rintro kb l4 C F ⟨i, G', now', n, lo, tr, rfl, hi, hph, hn', hG, hR, htr⟩ hk
  have hph0 := hph
  obtain ⟨up, jt, mem, low, nxt, ch, sg, hA, hI, hpd, hlo, hinj, hnst, hcnt, hB⟩ := hph
  have he := hpd.2.1
  unfold B_X0_step_3
  rw [hpd.1]
  refine pk_le e i (fun hle => ?_) (fun hlt => ?_)
  · have e1 : i = e := by omega
    subst e1
    unfold K_X0_step_3_27
    have hB2 : tbI N tm (cl_s_expected C (0 : Int32)) ch sg (G' now') (fun x => ∃ a, a < n ∧ lo a = x) (Cl (rr N (G' now') (Pn p1 p2 0 0))) (apD N tm) (fun _ => False) := by
      refine tbI_C (tbI_R hB (fun u w q => Cl_mono (fun a b hab => Cl_sub ?_) q)) rfl rfl rfl rfl
      rcases hab with z | ⟨j, j1, j2, -⟩
      · exact Or.inl z
      · omega
    refine stepB_ok (C := cl_s_expected C (0 : Int32)) hT hA hI (p1 := p1) (p2 := p2) ⟨rfl, by omega, fun j hj => absurd hj (Nat.not_lt_zero _)⟩ hlo hinj (by omega) hB2 (fun C' e' q1 q2 he' hcg hCS => ?_)
    refine hp C' F G' now' e' q1 q2 tr hCS hn' hG (fun u w hu hw => ?_) hcg ?_ (by omega)
    · rw [← hR u w, Cl_tp (Nat.le_refl _) hu hw]
    · rcases htr with z | z
      · exact Or.inl z
      · exact Or.inr (by omega)
  · refine unite_ok hT hph0 hlt hn' htn (fun C2 F2 G2 now2 n2 lo2 tr2 hph2 hn2 hG2 hR2 htr2 => ?_)
    refine hk _ _ _ ⟨i + 1, G2, now2, n2, lo2, tr2, nI_1 i, by omega, hph2, hn2, fun τ x hτ => (hG2 τ x hτ).trans (hG τ x hτ), fun u w => (hR2 u w).trans (hR u w), by omega⟩ ?_
    rw [nI_1, nI_clamp (by omega), nI_clamp (by omega)]
    omega
/-- with nothing expected, being joined is a congruence -/
theorem CS_cgr (hT : teA N tm T) (h : CS N tm C F G now 0 p1 p2 trees) : ∀ x y, cg N tm (eqT (G now)) x y → G now x = G now y := by
  obtain ⟨lo, up, jt, mem, low, nxt, ch, sg, hA, hI, hpd, hlo, hinj, hnst, hcnt, hB⟩ := h
  obtain ⟨bA, b1, b2, b3, b4, b5, b6, b7⟩ := hB
  rintro x y ⟨a, b, c, d, hx, hy, hxt, hyt, h1, h2⟩
  obtain ⟨x', a', b', q1, q2, q3, q4, q5, q6⟩ := b7 x a b ⟨hx, a, b, hxt⟩ hxt
  obtain ⟨y', c', d', r1, r2, r3, r4, r5, r6⟩ := b7 y c d ⟨hy, c, d, hyt⟩ hyt
  have q1 := q1.resolve_right id
  have r1 := r1.resolve_right id
  have sx : Stn C x' := by
    by_cases z : Stn C x'
    · exact z
    · obtain ⟨a, ha, -⟩ := b4 x' q1 z
      exact absurd ha (Nat.not_lt_zero _)
  have sy : Stn C y' := by
    by_cases z : Stn C y'
    · exact z
    · obtain ⟨a, ha, -⟩ := b4 y' r1 z
      exact absurd ha (Nat.not_lt_zero _)
  have h1 : G now a = G now c := h1
  have h2 : G now b = G now d := h2
  have e1 := (b3 x' a' b' ⟨q2, a', b', q3⟩ q3 sx).2
  have e2 := (b3 y' c' d' ⟨r2, c', d', r3⟩ r3 sy).2
  have e3 : x' = y' := b6 x' y' q1 r1 sx sy (by rw [e1, e2, ← q5, ← q6, ← r5, ← r6, h1, h2])
  have q4 := (Cl_tp (Nat.le_refl _) hx q2).mp q4
  have r4 := (Cl_tp (Nat.le_refl _) hy r2).mp r4
  rw [q4, r4, e3]
/-- after a step with pairs e, all pairs of applications that must be the same now are within what is joined or expected -/
theorem CS_cov (hT : teA N tm T) (h : CS N tm C F G now e p1 p2 trees) : ∀ x y, cg N tm (eqT (G now)) x y → Cl (rr N (G now) (Pn p1 p2 0 e)) x y := by
  obtain ⟨lo, up, jt, mem, low, nxt, ch, sg, hA, hI, hpd, hlo, hinj, hnst, hcnt, hB⟩ := h
  obtain ⟨bA, b1, b2, b3, b4, b5, b6, b7⟩ := hB
  rintro x y ⟨a, b, c, d, hx, hy, hxt, hyt, h1, h2⟩
  obtain ⟨x', a', b', q1, q2, q3, q4, q5, q6⟩ := b7 x a b ⟨hx, a, b, hxt⟩ hxt
  obtain ⟨y', c', d', r1, r2, r3, r4, r5, r6⟩ := b7 y c d ⟨hy, c, d, hyt⟩ hyt
  have q1 := q1.resolve_right id
  have r1 := r1.resolve_right id
  have sx : Stn C x' := by
    by_cases z : Stn C x'
    · exact z
    · obtain ⟨a, ha, -⟩ := b4 x' q1 z
      exact absurd ha (Nat.not_lt_zero _)
  have sy : Stn C y' := by
    by_cases z : Stn C y'
    · exact z
    · obtain ⟨a, ha, -⟩ := b4 y' r1 z
      exact absurd ha (Nat.not_lt_zero _)
  have h1 : G now a = G now c := h1
  have h2 : G now b = G now d := h2
  have e1 := (b3 x' a' b' ⟨q2, a', b', q3⟩ q3 sx).2
  have e2 := (b3 y' c' d' ⟨r2, c', d', r3⟩ r3 sy).2
  have e3 : x' = y' := b6 x' y' q1 r1 sx sy (by rw [e1, e2, ← q5, ← q6, ← r5, ← r6, h1, h2])
  subst e3
  exact (Cl_eqv _).2.2 _ _ _ q4 ((Cl_eqv _).2.1 _ _ r4)
end SE

/-! PURE: settle, begin -/
section ST
variable {N : Nat} {tm : Nat → Option (Nat × Nat)} {T : TeS} {C : ClS} {F : FoS} {G : Nat → Nat → Nat} {now e : Nat} {p1 p2 : Nat → Nat} {trees : Nat}
theorem CS_pd (h : CS N tm C F G now e p1 p2 trees) : pdA N C e p1 p2 := by
  obtain ⟨lo, up, jt, mem, low, nxt, ch, sg, hA, hI, hpd, h⟩ := h
  exact hpd
theorem CS_fr (h : CS N tm C F G now e p1 p2 trees) : ∃ up jt mem low nxt, frA N F up jt mem low nxt trees now ∧ frI N up jt mem low nxt trees G now := by
  obtain ⟨lo, up, jt, mem, low, nxt, ch, sg, hA, hI, h⟩ := h
  exact ⟨up, jt, mem, low, nxt, hA, hI⟩
theorem CS_trees (h : CS N tm C F G now e p1 p2 trees) : trees ≤ N := by
  obtain ⟨up, jt, mem, low, nxt, hA, hI⟩ := CS_fr h
  rw [hI.2.2.2.2.2.2.2.2.2.1]
  exact cnt_le _ _
theorem settle_ok (hT : teA N tm T) (h : CS N tm C F G now e p1 p2 trees) {t : Nat} (ht : now ≤ t) (htn : t < 1000000) {post : ClS → FoS → Prop}
    (hp : ∀ C' F' G' now' q1 q2 trees', CS N tm C' F' G' now' 0 q1 q2 trees' → now' ≤ t → (∀ τ x, τ < t → G' τ x = G τ x) → (∀ u w, u < N → w < N → (G' now' u = G' now' w ↔ Gv N tm (rr N (G now) (Pn p1 p2 0 e)) u w)) → post C' F') : wp_X0_settle T C F (nI t) post := by
  have hN : N ≤ 250 := hT.2.1
  unfold wp_X0_settle
  refine wl3_ind (fun l4 C F => ∃ i G1 now1 e1 q1 q2 tr, l4 = nI i ∧ i ≤ 251 ∧ CS N tm C F G1 now1 e1 q1 q2 tr ∧ now1 ≤ t ∧ (∀ τ x, τ < t → G1 τ x = G τ x) ∧ (∀ u w, Gv N tm (rr N (G1 now1) (Pn q1 q2 0 e1)) u w ↔ Gv N tm (rr N (G now) (Pn p1 p2 0 e)) u w) ∧ (e1 = 0 ∨ i + tr ≤ 250)) (fun l4 _ _ => 500 - l4.toNatClampNeg) ?_ _ _ _ ⟨0, G, now, e, p1, p2, trees, rfl, by omega, h, ht, fun _ _ _ => rfl, fun _ _ => Iff.rfl, Or.inr (by have := CS_trees h; omega)⟩
  rintro kb l4 C F ⟨i, G1, now1, e1, q1, q2, tr, rfl, hi, hCS, hn1, hG1, hR, htr⟩ hk
  have fin : e1 = 0 → K_X0_settle_3_31 post (nI i) C F := by
    intro e0
    subst e0
    refine hp C F G1 now1 q1 q2 tr hCS hn1 hG1 (fun u w hu hw => ?_)
    rw [← hR u w]
    constructor
    · exact fun hh => Gv_sub (Or.inl ⟨hu, hw, hh⟩)
    · intro hh
      have q := hh (fun a b => a = b ∨ (a < N ∧ b < N ∧ G1 now1 a = G1 now1 b)) ⟨fun a => Or.inl rfl, fun a b hab => ?_, fun a b c hab hbc => ?_⟩ (fun a b hab => ?_) (fun x y hxy => ?_)
      · rcases q with q | q
        · rw [q]
        · exact q.2.2
      · rcases hab with q | q
        · exact Or.inl q.symm
        · exact Or.inr ⟨q.2.1, q.1, q.2.2.symm⟩
      · rcases hab with q | q
        · rw [q]; exact hbc
        · rcases hbc with r | r
          · rw [← r]; exact Or.inr q
          · exact Or.inr ⟨q.1, r.2.1, q.2.2.trans r.2.2⟩
      · rcases hab with q | ⟨j, j1, j2, -⟩
        · exact Or.inr q
        · omega
      · have hx := hxy
        obtain ⟨a, b, c, d, h1, h2, h3, h4, h5, h6⟩ := hxy
        refine Or.inr ⟨h1, h2, CS_cgr hT hCS x y ⟨a, b, c, d, h1, h2, h3, h4, ?_, ?_⟩⟩
        · show G1 now1 a = G1 now1 c
          rcases h5 with q | q
          · rw [q]
          · exact q.2.2
        · show G1 now1 b = G1 now1 d
          rcases h6 with q | q
          · rw [q]
          · exact q.2.2
  have hpd := CS_pd hCS
  have he := hpd.2.1
  unfold B_X0_settle_3
  refine pk_le 500 i (fun hle => by omega) (fun _ => ?_)
  rw [hpd.1]
  refine pk_le e1 0 (fun hle => fin (by omega)) (fun hlt => ?_)
  refine step_ok hT hCS hn1 htn (fun C2 F2 G2 now2 e2 r1 r2 tr2 hCS2 hn2 hG2 hR2 hcg2 htr2 he2 => ?_)
  refine hk _ _ _ ⟨i + 1, G2, now2, e2, r1, r2, tr2, nI_1 i, by omega, hCS2, hn2, fun τ x hτ => (hG2 τ x hτ).trans (hG1 τ x hτ), fun u w => (Iff.trans ?_ (hR u w)), by omega⟩ ?_
  · constructor
    · refine fun hh => Gv_mono (fun a b hab => ?_) hh
      have cl : ∀ a b, a < N → b < N → G2 now2 a = G2 now2 b → Gv N tm (rr N (G1 now1) (Pn q1 q2 0 e1)) a b := fun a b ha hb hab => ((hR2 a b ha hb).mp hab) _ (Gv_eqv N tm _) (fun _ _ z => Gv_sub z)
      rcases hab with ⟨ha, hb, hab⟩ | ⟨j, j1, j2, j3, j4⟩
      · exact cl a b ha hb hab
      · subst j3; subst j4
        obtain ⟨a, b, c, d, h1, h2, h3, h4, h5, h6⟩ := hcg2 j j2
        have k1 := hT.2.2.2.2.1 _ a b h1 h3
        have k2 := hT.2.2.2.2.1 _ c d h2 h4
        exact Gv_cgr N tm _ _ _ ⟨a, b, c, d, h1, h2, h3, h4, cl a c (by omega) (by omega) h5, cl b d (by omega) (by omega) h6⟩
    · refine fun hh => Gv_mono (fun a b hab => Gv_sub (Or.inl ?_)) hh
      have hb : a < N ∧ b < N := by
        rcases hab with z | ⟨j, j1, j2, j3, j4⟩
        · exact ⟨z.1, z.2.1⟩
        · have z := hpd.2.2 j j2
          rw [j3, j4]
          exact ⟨z.2.2.1, z.2.2.2⟩
      exact ⟨hb.1, hb.2, (hR2 a b hb.1 hb.2).mpr (Cl_sub hab)⟩
  · rw [nI_1, nI_clamp (by omega), nI_clamp (by omega)]
    omega
theorem tbI_cur {ch : Nat → List Nat} {sg : Nat → Nat} {tp : Nat → Nat} {LO D cur cur' : Nat → Prop} {R : Rel} (h : tbI N tm C ch sg tp LO R D cur) (hc : ∀ u, cur u → cur' u) : tbI N tm C ch sg tp LO R D cur' := by
  obtain ⟨h1, h2, h3, h4, h5, h6, h7, h8⟩ := h
  refine ⟨h1, h2, h3, h4, h5, h6, h7, fun x a b hx hxt => ?_⟩
  obtain ⟨y, c, d, q1, q2, q3, q4, q5⟩ := h8 x a b hx hxt
  exact ⟨y, c, d, q1.imp id (hc y), q2, q3, q4, q5⟩
theorem begin_ok (hT : teA N tm T) {post : ClS → FoS → Prop} (hp : ∀ C' F' q1 q2, CS N tm C' F' (fun _ x => x) 0 0 q1 q2 N → post C' F') : wp_X0_begin T C F post := by
  have hN : N ≤ 250 := hT.2.1
  unfold wp_X0_begin
  rw [hT.1]
  refine plant_ok hN (fun F1 hA => ?_)
  have hI := plant_I N
  refine wl2_ind (fun l3 C => ∃ t p1 p2 ch sg, l3 = nI t ∧ t ≤ N ∧ pdA N C 0 p1 p2 ∧ cl_looseTotal C = nI 0 ∧ tbI N tm C ch sg (fun x => x) (fun _ => False) (Cl (rr N (fun x => x) (Pn p1 p2 0 0))) (fun x => x < t ∧ apD N tm x) (fun _ => False)) (fun l3 _ => 250 - l3.toNatClampNeg) ?_ _ _ ⟨0, fun _ => 0, fun _ => 0, fun _ => [], fun _ => 0, rfl, Nat.zero_le _, ⟨rfl, by omega, fun j hj => absurd hj (Nat.not_lt_zero _)⟩, rfl, ⟨fun b hb => ⟨rfl, List.nodup_nil, fun x hx => absurd hx List.not_mem_nil⟩, fun x hx => absurd hx List.not_mem_nil, fun x hx => absurd hx.1 (Nat.not_lt_zero _), fun x a b hx => absurd hx.1 (Nat.not_lt_zero _), fun x hx => absurd hx List.not_mem_nil, fun x hx => hx.elim, fun x y hx => absurd hx List.not_mem_nil, fun x a b hx => absurd hx.1 (Nat.not_lt_zero _)⟩⟩
  rintro kb l3 C ⟨t, p1, p2, ch, sg, rfl, ht, hpd, hlt, hB⟩ hk
  unfold B_X0_begin_28
  rw [hT.1]
  refine pk_le N t (fun hle => ?_) (fun h => ?_)
  · have e1 : t = N := by omega
    subst e1
    refine hp C F1 p1 p2 ⟨fun _ => 0, _, _, _, _, _, ch, sg, hA, hI, hpd, ⟨hlt, by omega, fun j hj => absurd hj (Nat.not_lt_zero _)⟩, fun a b ha => absurd ha (Nat.not_lt_zero _), fun a ha => absurd ha (Nat.not_lt_zero _), by rw [Nat.zero_add]; exact cnt_le _ _, ?_⟩
    exact tbI_LO hB (fun u => ⟨fun z => z.elim, fun ⟨a, ha, _⟩ => absurd ha (Nat.not_lt_zero _)⟩) (fun u => ⟨fun z => z.2, fun z => ⟨z.1, z⟩⟩)
  · have hm : 250 - (nI t + 1).toNatClampNeg < 250 - (nI t).toNatClampNeg := by
      rw [nI_1, nI_clamp (by omega), nI_clamp (by omega)]
      omega
    refine ⟨pk_in t 250 (by omega), ?_⟩
    rw [nI_clamp (show t < 2 ^ 31 by omega), hT.2.2.1 t h]
    cases htt : tm t with
    | none =>
      refine ⟨fun _ => ?_, fun z => absurd rfl z⟩
      refine hk _ _ ⟨t + 1, p1, p2, ch, sg, nI_1 t, by omega, hpd, hlt, tbI_LO hB (fun _ => Iff.rfl) (fun u => ⟨fun z => ⟨by omega, z.2⟩, fun z => ⟨?_, z.2⟩⟩)⟩ hm
      have hne : u ≠ t := fun e1 => by
        obtain ⟨_, a, b, hab⟩ := z.2
        rw [e1, htt] at hab
        cases hab
      omega
    | some ab =>
      obtain ⟨a, b⟩ := ab
      have hab := hT.2.2.2.2.1 t a b h htt
      refine ⟨fun z => absurd z (nI_ne1 (show a < 2 ^ 31 by omega)), fun _ => ?_⟩
      have hnin : ∀ b, b < 256 → t ∉ ch b := by
        intro b hb hm2
        have q := (hB.1 b hb).2.2 t hm2
        have r := hB.2.1 t (by rw [q.2.2.2]; exact hm2)
        exact Nat.lt_irrefl _ r.1
      have inj : ∀ y, y < N → cg N tm (eqT ((fun _ x => x : Nat → Nat → Nat) 0)) t y → t = y := by
        rintro y hy ⟨a1, b1, c1, d1, h1, h2, h3, h4, h5, h6⟩
        have h5 : a1 = c1 := h5
        have h6 : b1 = d1 := h6
        subst h5; subst h6
        exact hT.2.2.2.2.2.1 t y _ h1 h2 h3 h4
      refine place_ok (G := fun _ x => x) (now := 0) hT hA hI h htt (tbI_cur hB (fun u z => z.elim)) hpd (by omega) hnin (fun _ y hy hc => ?_) (fun C4 e4 q1 q2 ch4 sg4 hpd4 hsame hnew hB4 g7 g8 => ?_)
      · have := inj y hy.2.1 hc
        have := hy.1
        omega
      · have e0 : e4 = 0 := by
          rcases hnew with z | ⟨z1, z2, z3, z4⟩
          · exact z
          · have hy := (hpd4.2.2 0 (by omega)).2.2.2
            exact absurd (inj _ hy z4).symm z3
        subst e0
        refine hk _ _ ⟨t + 1, q1, q2, ch4, sg4, nI_1 t, by omega, hpd4, by rw [g8]; exact hlt, tbI_LO hB4 (fun _ => Iff.rfl) (fun u => ⟨?_, ?_⟩)⟩ hm
        · rintro (z | z)
          · exact ⟨by have := z.1; omega, z.2⟩
          · rw [z]; exact ⟨by omega, h, a, b, htt⟩
        · intro z
          by_cases c : u = t
          · exact Or.inr c
          · exact Or.inl ⟨by have := z.1; omega, z.2⟩
end ST

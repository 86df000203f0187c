/-! PURE: the classes by equations, by rounds, of a set of equations -/
def paA (N cap : Nat) (P : PaS) (n : Nat) (l r : Nat → Nat) : Prop := pa_total P = nI n ∧ n ≤ cap ∧ ∀ j, j < n → pa_left P j = nI (l j) ∧ pa_right P j = nI (r j) ∧ l j < N ∧ r j < N
/-- the equations whose numbers are in P -/
def Eqs (l r : Nat → Nat) (P : Nat → Prop) : Rel := fun x y => ∃ k, P k ∧ x = l k ∧ y = r k
/-- the forest tells H: when two came together -/
def FoX (N : Nat) (F : FoS) (H : Nat → Rel) : Prop := ∃ up jt mem low nxt trees G now, frA N F up jt mem low nxt trees now ∧ frI N up jt mem low nxt trees G now ∧ ∀ τ u w, τ < 1000000 → u < N → w < N → (G τ u = G τ w ↔ H τ u w)
section CLS
variable {N : Nat} {tm : Nat → Option (Nat × Nat)} {T : TeS} {C : ClS} {F : FoS} {G : Nat → Nat → Nat} {now e : Nat} {p1 p2 : Nat → Nat} {trees : Nat} {Q : PaS} {n : Nat} {l r : Nat → Nat}
theorem CS_expect (h : CS N tm C F G now e p1 p2 trees) (he : e < 310) {a b : Nat} (ha : a < N) (hb : b < N) {post : ClS → Prop} (hp : ∀ C', CS N tm C' F G now (e + 1) (fun i => if i = e then a else p1 i) (fun i => if i = e then b else p2 i) trees → post C') : wp_X0_expect C (nI a) (nI b) post := by
  refine expect_ok (CS_pd h) he ha hb (fun C' hp' f1 f2 f3 f4 f5 f6 => hp C' ?_)
  obtain ⟨lo, up, jt, mem, low, nxt, ch, sg, hA, hI, hpd, hlo, hinj, hnst, hcnt, hB⟩ := h
  refine ⟨lo, up, jt, mem, low, nxt, ch, sg, hA, hI, hp', ⟨by rw [f6]; exact hlo.1, hlo.2.1, fun i hi => by rw [f5]; exact hlo.2.2 i hi⟩, hinj, fun a ha => absurd ha (Nat.not_lt_zero _), by rw [Nat.zero_add]; exact cnt_le _ _, tbI_C (tbI_R hB (fun u w q => Cl_mono (fun a b hab => Cl_sub ?_) q)) f1 f2 f3 f4⟩
  rcases hab with z | ⟨j, j1, j2, j3, j4⟩
  · exact Or.inl z
  · refine Or.inr ⟨j, j1, by omega, ?_, ?_⟩
    · exact j3.trans (if_neg (Nat.ne_of_lt j2)).symm
    · exact j4.trans (if_neg (Nat.ne_of_lt j2)).symm
/-- one equation more, and all that follows -/
theorem add_ok (hT : teA N tm T) (h : CS N tm C F G now 0 p1 p2 trees) {S : Rel} (hS : ∀ u w, u < N → w < N → (G now u = G now w ↔ Gv N tm S u w)) (hSN : ∀ u w, S u w → u < N ∧ w < N) {a b t : Nat} (ha : a < N) (hb : b < N) (ht : now ≤ t) (htn : t < 1000000) {post : ClS → FoS → Prop}
    (hp : ∀ C' F' G' now' q1 q2 trees', CS N tm C' F' G' now' 0 q1 q2 trees' → now' ≤ t → (∀ τ x, τ < t → G' τ x = G τ x) → (∀ u w, u < N → w < N → (G' now' u = G' now' w ↔ Gv N tm (fun x y => S x y ∨ (x = a ∧ y = b)) u w)) → post C' F') : wp_X0_expect C (nI a) (nI b) (fun C6 => wp_X0_settle T C6 F (nI t) post) := by
  refine CS_expect h (by omega) ha hb (fun C' h' => ?_)
  refine settle_ok hT h' ht htn (fun C2 F2 G2 now2 q1 q2 tr2 h2 hn2 hG2 hR2 => hp C2 F2 G2 now2 q1 q2 tr2 h2 hn2 hG2 (fun u w hu hw => ?_))
  rw [hR2 u w hu hw]
  constructor
  · refine fun hh => Gv_mono (fun x y hxy => ?_) hh
    rcases hxy with ⟨z1, z2, z3⟩ | ⟨j, j1, j2, j3, j4⟩
    · exact Gv_mono (fun _ _ z => Gv_sub (Or.inl z)) ((hS x y z1 z2).mp z3)
    · have ej : j = 0 := by omega
      subst ej
      exact Gv_sub (Or.inr ⟨j3, j4⟩)
  · refine fun hh => Gv_mono (fun x y hxy => Gv_sub ?_) hh
    rcases hxy with z | ⟨z1, z2⟩
    · have b := hSN x y z
      exact Or.inl ⟨b.1, b.2, (hS x y b.1 b.2).mpr (Gv_sub z)⟩
    · exact Or.inr ⟨0, Nat.le_refl _, by omega, z1, z2⟩
theorem Gv_iff {S S' : Rel} (h : ∀ a b, S a b ↔ S' a b) (u w : Nat) : Gv N tm S u w ↔ Gv N tm S' u w := ⟨Gv_mono (fun a b z => Gv_sub ((h a b).mp z)), Gv_mono (fun a b z => Gv_sub ((h a b).mpr z))⟩
theorem Eqs_N {cap : Nat} (hQ : paA N cap Q n l r) {P : Nat → Prop} (hP : ∀ k, P k → k < n) : ∀ u w, Eqs l r P u w → u < N ∧ w < N := by
  rintro u w ⟨k, hk, rfl, rfl⟩
  have := hQ.2.2 k (hP k hk)
  exact ⟨this.2.2.1, this.2.2.2⟩
theorem Gv_empty (hT : teA N tm T) {S : Rel} (hS : ∀ a b, ¬ S a b) (u w : Nat) : Gv N tm S u w ↔ u = w := by
  constructor
  · intro h
    refine h (fun a b => a = b) ⟨fun _ => rfl, fun _ _ z => z.symm, fun _ _ _ z1 z2 => z1.trans z2⟩ (fun a b z => absurd z (hS a b)) (fun x y hxy => ?_)
    obtain ⟨a, b, c, d, h1, h2, h3, h4, h5, h6⟩ := hxy
    have h5 : a = c := h5
    have h6 : b = d := h6
    subst h5; subst h6
    exact hT.2.2.2.2.2.1 x y _ h1 h2 h3 h4
  · intro h
    rw [h]; exact (Gv_eqv N tm S).1 w
theorem sa_eta (S : SaS) : S = sa_s_byEquationsHolds S (sa_byEquationsHolds S) := rfl
theorem classes_ok (hT : teA N tm T) (hQ : paA N 60 Q n l r) {S : SaS} {E : FoS} (hS : ¬ sa_byEquationsHolds S = 0 → FoX N E (fun τ => Gv N tm (Eqs l r (fun k => k < τ ∧ k < n)))) {post : SaS → ClS → FoS → Prop}
    (hp : ∀ S' C' E', FoX N E' (fun τ => Gv N tm (Eqs l r (fun k => k < τ ∧ k < n))) → (∃ v, S' = sa_s_byEquationsHolds S v ∧ ¬ v = 0) → post S' C' E') : wp_X4_classes S T Q C E post := by
  unfold wp_X4_classes
  refine ⟨fun _ => ?_, fun h => hp S C E (hS h) ⟨sa_byEquationsHolds S, rfl, h⟩⟩
  refine begin_ok hT (fun C2 E2 q1 q2 h0 => ?_)
  refine wl3_ind (fun l1 C E => ∃ i G1 now1 q1 q2 tr, l1 = nI i ∧ i ≤ n ∧ CS N tm C E G1 now1 0 q1 q2 tr ∧ now1 ≤ i ∧ ∀ τ u w, τ ≤ i → u < N → w < N → (G1 τ u = G1 τ w ↔ Gv N tm (Eqs l r (fun k => k < τ ∧ k < n)) u w)) (fun l1 _ _ => 60 - l1.toNatClampNeg) ?_ _ _ _ ⟨0, fun _ x => x, 0, q1, q2, N, rfl, Nat.zero_le _, h0, Nat.le_refl _, fun τ u w hτ hu hw => ?_⟩
  · rintro kb l1 C E ⟨i, G1, now1, q1, q2, tr, rfl, hi, hCS, hn1, hG1⟩ hk
    have hn := hQ.2.1
    unfold B_X4_classes_24
    rw [hQ.1]
    obtain ⟨up, jt, mem, low, nxt, hA, hI⟩ := CS_fr hCS
    refine pk_le n i (fun hle => ?_) (fun hlt => ?_)
    · have e1 : i = n := by omega
      subst e1
      refine hp _ _ _ ⟨up, jt, mem, low, nxt, tr, G1, now1, hA, hI, fun τ u w hτ hu hw => ?_⟩ ⟨1, rfl, by decide⟩
      by_cases c : τ ≤ i
      · exact hG1 τ u w c hu hw
      · rw [frI_late hI (show now1 ≤ τ by omega) hτ u hu, frI_late hI (show now1 ≤ τ by omega) hτ w hw, ← frI_late hI hn1 (by omega) u hu, ← frI_late hI hn1 (by omega) w hw, hG1 i u w (Nat.le_refl _) hu hw]
        refine Gv_iff (fun a b => ⟨?_, ?_⟩) u w
        · rintro ⟨k, hk, z⟩; exact ⟨k, ⟨by omega, hk.2⟩, z⟩
        · rintro ⟨k, hk, z⟩; exact ⟨k, ⟨hk.2, hk.2⟩, z⟩
    · refine ⟨pk_in i 60 (by omega), ?_⟩
      rw [nI_clamp (show i < 2 ^ 31 by omega)]
      obtain ⟨o1, o2, o3, o4⟩ := hQ.2.2 i hlt
      rw [o1, o2, show nI i + (1 : Int32) = nI (i + 1) from nI_1 i]
      have hbase : ∀ u w, u < N → w < N → (G1 now1 u = G1 now1 w ↔ Gv N tm (Eqs l r (fun k => k < i ∧ k < n)) u w) := by
        intro u w hu hw
        rw [← frI_late hI hn1 (by omega) u hu, ← frI_late hI hn1 (by omega) w hw]
        exact hG1 i u w (Nat.le_refl _) hu hw
      refine add_ok hT hCS hbase (Eqs_N hQ (fun k hk => hk.2)) o3 o4 (show now1 ≤ i + 1 by omega) (by omega) (fun C' F' G' now' r1 r2 tr' hCS' hn' hG' hR' => ?_)
      obtain ⟨up', jt', mem', low', nxt', hA', hI'⟩ := CS_fr hCS'
      refine hk _ _ _ ⟨i + 1, G', now', r1, r2, tr', rfl, by omega, hCS', hn', fun τ u w hτ hu hw => ?_⟩ ?_
      · by_cases c : τ ≤ i
        · rw [hG' τ u (by omega), hG' τ w (by omega)]
          exact hG1 τ u w c hu hw
        · have e1 : τ = i + 1 := by omega
          subst e1
          rw [frI_late hI' hn' (by omega) u hu, frI_late hI' hn' (by omega) w hw, hR' u w hu hw]
          refine Gv_iff (fun a b => ⟨?_, ?_⟩) u w
          · rintro (⟨k, hk, z⟩ | ⟨z1, z2⟩)
            · exact ⟨k, ⟨by omega, hk.2⟩, z⟩
            · exact ⟨i, ⟨by omega, hlt⟩, z1, z2⟩
          · rintro ⟨k, hk, z⟩
            by_cases c2 : k = i
            · subst c2; exact Or.inr z
            · exact Or.inl ⟨k, ⟨by omega, hk.2⟩, z⟩
      · rw [nI_clamp (by omega), nI_clamp (by omega)]
        omega
  · refine Iff.symm (Gv_empty hT (fun a b z => ?_) u w)
    obtain ⟨k, hk, -⟩ := z
    omega
theorem rounds_ok (hT : teA N tm T) (hQ : paA N 60 Q n l r) {S : SaS} {E : FoS} (hS : ¬ sa_byRoundsHolds S = 0 → FoX N E (Rd N tm (Eqs l r (fun k => k < n)))) {post : SaS → ClS → FoS → Prop}
    (hp : ∀ S' C' E', FoX N E' (Rd N tm (Eqs l r (fun k => k < n))) → (∃ v, S' = sa_s_byRoundsHolds S v ∧ ¬ v = 0) → post S' C' E') : wp_X4_rounds S T Q C E post := by
  have hn := hQ.2.1
  have hN : N ≤ 250 := hT.2.1
  unfold wp_X4_rounds
  refine ⟨fun _ => ?_, fun h => hp S C E (hS h) ⟨sa_byRoundsHolds S, rfl, h⟩⟩
  refine begin_ok hT (fun C2 E2 q1 q2 h0 => ?_)
  refine wl2_ind (fun l1 C => ∃ i p1 p2, l1 = nI i ∧ i ≤ n ∧ CS N tm C E2 (fun _ x => x) 0 i p1 p2 N ∧ ∀ j, j < i → p1 j = l j ∧ p2 j = r j) (fun l1 _ => 60 - l1.toNatClampNeg) ?_ _ _ ⟨0, q1, q2, rfl, Nat.zero_le _, h0, fun j hj => absurd hj (Nat.not_lt_zero _)⟩
  rintro kb l1 C ⟨i, p1, p2, rfl, hi, hCS, hpr⟩ hk
  unfold B_X4_rounds_24
  rw [hQ.1]
  refine pk_le n i (fun hle => ?_) (fun hlt => ?_)
  · have e1 : i = n := by omega
    subst e1
    unfold K_X4_rounds_24_66
    have hpn : ∀ a b, Pn p1 p2 0 i a b ↔ Eqs l r (fun k => k < i) a b := by
      intro a b
      constructor
      · rintro ⟨j, j1, j2, j3, j4⟩; exact ⟨j, j2, by rw [j3]; exact (hpr j j2).1, by rw [j4]; exact (hpr j j2).2⟩
      · rintro ⟨j, j2, j3, j4⟩; exact ⟨j, Nat.zero_le _, j2, by rw [j3]; exact (hpr j j2).1.symm, by rw [j4]; exact (hpr j j2).2.symm⟩
    have hEN := Eqs_N (l := l) (r := r) hQ (P := fun k => k < i) (fun k hk => hk)
    refine wl3_ind (fun l1 C E => ∃ rd G1 now1 e1 q1 q2 tr, l1 = nI rd ∧ rd ≤ 251 ∧ CS N tm C E G1 now1 e1 q1 q2 tr ∧ now1 ≤ rd ∧ (∀ τ u w, τ < rd → u < N → w < N → (G1 τ u = G1 τ w ↔ Rd N tm (Eqs l r (fun k => k < i)) τ u w)) ∧ (∀ u w, Cl (rr N (G1 now1) (Pn q1 q2 0 e1)) u w ↔ Rd N tm (Eqs l r (fun k => k < i)) rd u w) ∧ (e1 = 0 ∨ rd + tr ≤ 250)) (fun l1 _ _ => 500 - l1.toNatClampNeg) ?_ _ _ _ ⟨0, fun _ x => x, 0, i, p1, p2, N, rfl, by omega, hCS, Nat.le_refl _, fun τ u w hτ => absurd hτ (Nat.not_lt_zero _), fun u w => ⟨?_, ?_⟩, Or.inr (by omega)⟩
    · rintro kb2 l1 C E ⟨rd, G1, now1, e1, s1, s2, tr, rfl, hrd, hCS1, hn1, hG1, hR1, htr⟩ hk2
      obtain ⟨up, jt, mem, low, nxt, hA, hI⟩ := CS_fr hCS1
      have hpd := CS_pd hCS1
      have he := hpd.2.1
      have fin : e1 = 0 → K_X4_rounds_68_107 S post (nI rd) C E := by
        intro e0
        subst e0
        have hst : ∀ u w, u < N → w < N → (G1 now1 u = G1 now1 w ↔ Rd N tm (Eqs l r (fun k => k < i)) rd u w) := fun u w hu hw => by
          rw [← hR1 u w, Cl_tp (Nat.le_refl _) hu hw]
        have hfull : ∀ a b, Gv N tm (Eqs l r (fun k => k < i)) a b → Rd N tm (Eqs l r (fun k => k < i)) rd a b := by
          intro a b hab
          refine Rd_full (fun x y hxy => ?_) hab
          obtain ⟨a, b, c, d, h1, h2, h3, h4, h5, h6⟩ := hxy
          have k1 := hT.2.2.2.2.1 x a b h1 h3
          have k2 := hT.2.2.2.2.1 y c d h2 h4
          refine (hst x y h1 h2).mp (CS_cgr hT hCS1 x y ⟨a, b, c, d, h1, h2, h3, h4, ?_, ?_⟩)
          · exact (hst a c (by omega) (by omega)).mpr h5
          · exact (hst b d (by omega) (by omega)).mpr h6
        refine hp _ _ _ ⟨up, jt, mem, low, nxt, tr, G1, now1, hA, hI, fun τ u w hτ hu hw => ?_⟩ ⟨1, rfl, by decide⟩
        by_cases c : τ < rd
        · exact hG1 τ u w c hu hw
        · rw [frI_late hI (show now1 ≤ τ by omega) hτ u hu, frI_late hI (show now1 ≤ τ by omega) hτ w hw, hst u w hu hw]
          exact ⟨fun z => Rd_le (by omega) z, fun z => hfull u w (Rd_Gv τ z)⟩
      unfold B_X4_rounds_68
      refine pk_le 500 rd (fun hle => by omega) (fun _ => ?_)
      rw [hpd.1]
      refine pk_le e1 0 (fun hle => fin (by omega)) (fun hlt => ?_)
      refine step_ok hT hCS1 hn1 (by omega) (fun C3 F3 G3 now3 e3 r1 r2 tr3 hCS3 hn3 hG3 hR3 hcg3 htr3 he3 => ?_)
      obtain ⟨up3, jt3, mem3, low3, nxt3, hA3, hI3⟩ := CS_fr hCS3
      have hst3 : ∀ u w, u < N → w < N → (G3 now3 u = G3 now3 w ↔ Rd N tm (Eqs l r (fun k => k < i)) rd u w) := fun u w hu hw => by
        rw [hR3 u w hu hw, hR1 u w]
      refine hk2 _ _ _ ⟨rd + 1, G3, now3, e3, r1, r2, tr3, nI_1 rd, by omega, hCS3, by omega, fun τ u w hτ hu hw => ?_, fun u w => ⟨?_, ?_⟩, by omega⟩ ?_
      · by_cases c : τ < rd
        · rw [hG3 τ u c, hG3 τ w c]; exact hG1 τ u w c hu hw
        · have e2 : τ = rd := by omega
          subst e2
          rw [frI_late hI3 hn3 (by omega) u hu, frI_late hI3 hn3 (by omega) w hw]
          exact hst3 u w hu hw
      · refine fun hh => Cl_mono (fun a b hab => ?_) hh
        rcases hab with ⟨z1, z2, z3⟩ | ⟨j, j1, j2, j3, j4⟩
        · exact Rd_succ rd ((hst3 a b z1 z2).mp z3)
        · subst j3; subst j4
          refine Cl_sub (Or.inr ?_)
          obtain ⟨a, b, c, d, h1, h2, h3, h4, h5, h6⟩ := hcg3 j j2
          have k1 := hT.2.2.2.2.1 _ a b h1 h3
          have k2 := hT.2.2.2.2.1 _ c d h2 h4
          exact ⟨a, b, c, d, h1, h2, h3, h4, (hst3 a c (by omega) (by omega)).mp h5, (hst3 b d (by omega) (by omega)).mp h6⟩
      · refine fun hh => Cl_mono (fun a b hab => ?_) hh
        rcases hab with z | z
        · have hb := hEN a b z
          exact Cl_sub (Or.inl ⟨hb.1, hb.2, (hst3 a b hb.1 hb.2).mpr (Rd_base z rd)⟩)
        · obtain ⟨a', b', c, d, h1, h2, h3, h4, h5, h6⟩ := z
          have k1 := hT.2.2.2.2.1 _ a' b' h1 h3
          have k2 := hT.2.2.2.2.1 _ c d h2 h4
          exact CS_cov hT hCS3 a b ⟨a', b', c, d, h1, h2, h3, h4, (hst3 a' c (by omega) (by omega)).mpr h5, (hst3 b' d (by omega) (by omega)).mpr h6⟩
      · rw [nI_1, nI_clamp (by omega), nI_clamp (by omega)]
        omega
    · refine fun hh => Cl_mono (fun a b hab => ?_) hh
      rcases hab with ⟨z1, z2, z3⟩ | z
      · have z3 : a = b := z3
        rw [z3]; exact (Cl_eqv _).1 b
      · exact Cl_sub ((hpn a b).mp z)
    · exact fun hh => Cl_mono (fun a b hab => Cl_sub (Or.inr ((hpn a b).mpr hab))) hh
  · refine ⟨pk_in i 60 (by omega), ?_⟩
    rw [nI_clamp (show i < 2 ^ 31 by omega)]
    obtain ⟨o1, o2, o3, o4⟩ := hQ.2.2 i hlt
    rw [o1, o2]
    refine CS_expect hCS (by omega) o3 o4 (fun C' h' => ?_)
    refine hk _ _ ⟨i + 1, _, _, nI_1 i, by omega, h', fun j hj => ?_⟩ ?_
    · by_cases c : j = i
      · subst c; simp
      · simp only [if_neg c]; exact hpr j (by omega)
    · rw [nI_1, nI_clamp (by omega), nI_clamp (by omega)]
      omega
end CLS

/-! PURE: closeOver, enoughBesideTrial, reasonsOf, equationAt -/
/-- the first i equations, and those whose bits x has -/
def Kq (l r : Nat → Nat) (n : Nat) (x : Int64) (i : Nat) : Rel := Eqs l r (fun k => k < n ∧ (k < i ∨ bt64 x k = true))
/-- P: the reasons of a and b -/
def RS (N : Nat) (tm : Nat → Option (Nat × Nat)) (l r : Nat → Nat) (n a b : Nat) (P : Nat → Prop) : Prop := (∀ k, P k → k < n) ∧ ∀ e, e < n → (P e ↔ ¬ Gv N tm (Eqs l r (fun k => k < n ∧ (k < e ∨ (e < k ∧ P k)))) a b)
theorem Eqs_iff {l r : Nat → Nat} {P P' : Nat → Prop} (h : ∀ k, P k ↔ P' k) (a b : Nat) : Eqs l r P a b ↔ Eqs l r P' a b := ⟨fun ⟨k, hk, z⟩ => ⟨k, (h k).mp hk, z⟩, fun ⟨k, hk, z⟩ => ⟨k, (h k).mpr hk, z⟩⟩
theorem RS_uniq {N : Nat} {tm : Nat → Option (Nat × Nat)} {l r : Nat → Nat} {n a b : Nat} {P P' : Nat → Prop} (h : RS N tm l r n a b P) (h' : RS N tm l r n a b P') : ∀ k, P k ↔ P' k := by
  have key : ∀ d k, n - k ≤ d → (P k ↔ P' k) := by
    intro d
    induction d with
    | zero => intro k hk; exact ⟨fun z => by have := h.1 k z; omega, fun z => by have := h'.1 k z; omega⟩
    | succ d ih =>
      intro k hk
      by_cases c : k < n
      · rw [h.2 k c, h'.2 k c]
        refine not_congr (Gv_iff (fun x y => Eqs_iff (fun m => ?_) x y) a b)
        constructor
        · rintro ⟨z1, z2 | z2⟩
          · exact ⟨z1, Or.inl z2⟩
          · exact ⟨z1, Or.inr ⟨z2.1, (ih m (by omega)).mp z2.2⟩⟩
        · rintro ⟨z1, z2 | z2⟩
          · exact ⟨z1, Or.inl z2⟩
          · exact ⟨z1, Or.inr ⟨z2.1, (ih m (by omega)).mpr z2.2⟩⟩
      · exact ⟨fun z => absurd (h.1 k z) c, fun z => absurd (h'.1 k z) c⟩
  exact fun k => key (n - k) k (Nat.le_refl _)
section RE
variable {N : Nat} {tm : Nat → Option (Nat × Nat)} {T : TeS} {C : ClS} {Y : FoS} {S : SaS} {Q : PaS} {n : Nat} {l r : Nat → Nat}
theorem closeOver_ok (hT : teA N tm T) (hQ : paA N 60 Q n l r) {x : Int64} {post : ClS → FoS → Prop}
    (hp : ∀ C' Y' G' q1 q2 tr, CS N tm C' Y' G' 0 0 q1 q2 tr → (∀ u w, u < N → w < N → (G' 0 u = G' 0 w ↔ Gv N tm (Kq l r n x 0) u w)) → post C' Y') : wp_X4_closeOver S T Q C Y x post := by
  have hn := hQ.2.1
  unfold wp_X4_closeOver
  refine begin_ok hT (fun C2 Y2 q1 q2 h0 => ?_)
  refine wl2_ind (fun l3 C => ∃ i e p1 p2, l3 = nI i ∧ i ≤ n ∧ e ≤ i ∧ CS N tm C Y2 (fun _ x => x) 0 e p1 p2 N ∧ ∀ a b, Pn p1 p2 0 e a b ↔ Eqs l r (fun k => k < i ∧ bt64 x k = true) a b) (fun l3 _ => 60 - l3.toNatClampNeg) ?_ _ _ ⟨0, 0, q1, q2, rfl, Nat.zero_le _, Nat.le_refl _, h0, fun a b => ⟨fun ⟨j, _, hj, _⟩ => absurd hj (Nat.not_lt_zero _), fun ⟨k, hk, _⟩ => absurd hk.1 (Nat.not_lt_zero _)⟩⟩
  rintro kb l3 C ⟨i, e, p1, p2, rfl, hi, hei, hCS, hpr⟩ hk
  unfold B_X4_closeOver_17
  rw [hQ.1]
  have hmeas : i < n → 60 - (nI i + 1).toNatClampNeg < 60 - (nI i).toNatClampNeg := by
    intro hlt
    rw [nI_1, nI_clamp (by omega), nI_clamp (by omega)]
    omega
  refine pk_le n i (fun hle => ?_) (fun hlt => ?_)
  · have e1 : i = n := by omega
    subst e1
    unfold K_X4_closeOver_17_69
    refine settle_ok (t := 0) hT hCS (Nat.le_refl _) (by omega) (fun C3 Y3 G3 now3 r1 r2 tr3 hCS3 hn3 hG3 hR3 => ?_)
    have e0 : now3 = 0 := by omega
    subst e0
    refine hp C3 Y3 G3 r1 r2 tr3 hCS3 (fun u w hu hw => (hR3 u w hu hw).trans ⟨?_, ?_⟩)
    · refine fun hh => Gv_mono (fun a b hab => ?_) hh
      rcases hab with ⟨z1, z2, z3⟩ | z
      · have z3 : a = b := z3
        rw [z3]; exact (Gv_eqv N tm _).1 b
      · obtain ⟨k, hk2, z⟩ := (hpr a b).mp z
        exact Gv_sub ⟨k, ⟨hk2.1, Or.inr hk2.2⟩, z⟩
    · refine fun hh => Gv_mono (fun a b hab => Gv_sub (Or.inr ((hpr a b).mpr ?_))) hh
      obtain ⟨k, hk2, z⟩ := hab
      exact ⟨k, ⟨hk2.1, hk2.2.resolve_left (Nat.not_lt_zero _)⟩, z⟩
  · rw [b6_lushr (x := x) (show i < 64 by omega)]
    refine ⟨fun hb => ?_, fun hb => ?_⟩
    · refine hk _ _ ⟨i + 1, e, p1, p2, nI_1 i, by omega, by omega, hCS, fun a b => (hpr a b).trans (Eqs_iff (fun k => ⟨fun z => ⟨by omega, z.2⟩, fun z => ⟨?_, z.2⟩⟩) a b)⟩ (hmeas hlt)
      have : k ≠ i := fun e1 => by rw [e1, hb] at z; exact absurd z.2 (by decide)
      omega
    · have hb : bt64 x i = true := by
        cases h9 : bt64 x i with
        | true => rfl
        | false => exact absurd h9 hb
      refine ⟨pk_in i 60 (by omega), ?_⟩
      rw [nI_clamp (show i < 2 ^ 31 by omega)]
      obtain ⟨o1, o2, o3, o4⟩ := hQ.2.2 i hlt
      rw [o1, o2]
      refine CS_expect hCS (by omega) o3 o4 (fun C' h' => ?_)
      refine hk _ _ ⟨i + 1, e + 1, _, _, nI_1 i, by omega, by omega, h', fun a b => ⟨?_, ?_⟩⟩ (hmeas hlt)
      · rintro ⟨j, j1, j2, j3, j4⟩
        by_cases c : j = e
        · subst c
          simp only [if_true] at j3 j4
          exact ⟨i, ⟨by omega, hb⟩, j3, j4⟩
        · simp only [if_neg c] at j3 j4
          obtain ⟨k, hk2, z⟩ := (hpr a b).mp ⟨j, j1, by omega, j3, j4⟩
          exact ⟨k, ⟨by omega, hk2.2⟩, z⟩
      · rintro ⟨k, hk2, z⟩
        by_cases c : k = i
        · subst c
          exact ⟨e, Nat.zero_le _, by omega, by simp only [if_true]; exact z.1, by simp only [if_true]; exact z.2⟩
        · obtain ⟨j, j1, j2, j3, j4⟩ := (hpr a b).mpr ⟨k, ⟨by omega, hk2.2⟩, z⟩
          exact ⟨j, j1, by omega, by simp only [if_neg (Nat.ne_of_lt j2)]; exact j3, by simp only [if_neg (Nat.ne_of_lt j2)]; exact j4⟩
theorem Kq_N (hQ : paA N 60 Q n l r) {x : Int64} {i : Nat} : ∀ u w, Kq l r n x i u w → u < N ∧ w < N := Eqs_N hQ (fun _ hk => hk.1)
theorem Kq_mono {x : Int64} {i j : Nat} (h : i ≤ j) {u w : Nat} (hg : Gv N tm (Kq l r n x i) u w) : Gv N tm (Kq l r n x j) u w := Gv_mono (fun _ _ ⟨k, hk, z⟩ => Gv_sub ⟨k, ⟨hk.1, hk.2.imp (fun q => by omega) id⟩, z⟩) hg
theorem Kq_all {x : Int64} {u w : Nat} (hg : Gv N tm (Eqs l r (fun k => k < n)) u w) : Gv N tm (Kq l r n x n) u w := Gv_mono (fun _ _ ⟨k, hk, z⟩ => Gv_sub ⟨k, ⟨hk, Or.inl hk⟩, z⟩) hg
theorem enough_ok (hT : teA N tm T) (hQ : paA N 60 Q n l r) {x : Int64} {a b : Nat} (ha : a < N) (hb : b < N) (hall : Gv N tm (Eqs l r (fun k => k < n)) a b) {G2 : Nat → Nat → Nat} {q1 q2 : Nat → Nat} {tr : Nat} (h0 : CS N tm C Y G2 0 0 q1 q2 tr) (hR0 : ∀ u w, u < N → w < N → (G2 0 u = G2 0 w ↔ Gv N tm (Kq l r n x 0) u w)) {post : Int32 → ClS → FoS → Prop}
    (hp : ∀ C' Y' j, j ≤ n → Gv N tm (Kq l r n x j) a b → (∀ i, i < j → ¬ Gv N tm (Kq l r n x i) a b) → post (nI j) C' Y') : wp_X4_enoughBesideTrial S T Q C Y (nI a) (nI b) post := by
  have hn := hQ.2.1
  have hN : N ≤ 250 := hT.2.1
  unfold wp_X4_enoughBesideTrial
  refine wl3_ind (fun l5 C Y => ∃ i G1 now1 q1 q2 tr, l5 = nI i ∧ i ≤ n ∧ CS N tm C Y G1 now1 0 q1 q2 tr ∧ now1 ≤ i ∧ (∀ τ u w, τ ≤ i → u < N → w < N → (G1 τ u = G1 τ w ↔ Gv N tm (Kq l r n x τ) u w)) ∧ ∀ τ, τ < i → ¬ Gv N tm (Kq l r n x τ) a b) (fun l5 _ _ => 60 - l5.toNatClampNeg) ?_ _ _ _ ⟨0, G2, 0, q1, q2, tr, rfl, Nat.zero_le _, h0, Nat.le_refl _, fun τ u w hτ hu hw => by rw [show τ = 0 by omega]; exact hR0 u w hu hw, fun τ hτ => absurd hτ (Nat.not_lt_zero _)⟩
  rintro kb l5 C Y ⟨i, G1, now1, q1, q2, tr, rfl, hi, hCS, hn1, hG1, hno⟩ hk
  obtain ⟨up, jt, mem, low, nxt, hA, hI⟩ := CS_fr hCS
  have fin : Gv N tm (Kq l r n x i) a b → K_X4_enoughBesideTrial_2_75 (nI a) (nI b) post (nI i) C Y := by
    intro hg
    unfold K_X4_enoughBesideTrial_2_75
    have hgi := (hG1 i a b (Nat.le_refl _) ha hb).mpr hg
    refine meeting_ok hN hA hI ha hb (fun τ hτ h1 h2 => ?_) (fun h2 => absurd hgi (h2 i (by omega)))
    have e1 : τ = i := by
      by_cases c : τ < i
      · exact absurd ((hG1 τ a b (by omega) ha hb).mp h1) (hno τ c)
      · by_cases c2 : i < τ
        · exact absurd hgi (h2 i c2)
        · omega
    rw [e1]
    exact hp C Y i hi hg hno
  unfold B_X4_enoughBesideTrial_2
  rw [hQ.1]
  refine pk_le n i (fun hle => ?_) (fun hlt => ?_)
  · have e1 : i = n := by omega
    subst e1
    exact fin (Kq_all hall)
  · refine meeting_ok hN hA hI ha hb (fun τ hτ h1 h2 => ?_) (fun h2 => ?_)
    · refine ⟨fun hh => absurd hh (nI_ne1 (by omega)), fun _ => fin ?_⟩
      refine (hG1 i a b (Nat.le_refl _) ha hb).mp ?_
      by_cases c : τ < i
      · exact absurd ((hG1 τ a b (by omega) ha hb).mp h1) (hno τ c)
      · rw [frI_late hI hn1 (by omega) a ha, frI_late hI hn1 (by omega) b hb]
        rw [frI_late hI (show now1 ≤ τ by omega) hτ a ha, frI_late hI (show now1 ≤ τ by omega) hτ b hb] at h1
        exact h1
    · refine ⟨fun _ => ?_, fun hh => absurd rfl hh⟩
      refine ⟨pk_in i 60 (by omega), ?_⟩
      rw [nI_clamp (show i < 2 ^ 31 by omega)]
      obtain ⟨o1, o2, o3, o4⟩ := hQ.2.2 i hlt
      rw [o1, o2, show nI i + (1 : Int32) = nI (i + 1) from nI_1 i]
      have hbase : ∀ u w, u < N → w < N → (G1 now1 u = G1 now1 w ↔ Gv N tm (Kq l r n x i) u w) := by
        intro u w hu hw
        rw [← frI_late hI hn1 (by omega) u hu, ← frI_late hI hn1 (by omega) w hw]
        exact hG1 i u w (Nat.le_refl _) hu hw
      refine add_ok hT hCS hbase (Kq_N hQ) o3 o4 (show now1 ≤ i + 1 by omega) (by omega) (fun C' F' G' now' r1 r2 tr' hCS' hn' hG' hR' => ?_)
      obtain ⟨up', jt', mem', low', nxt', hA', hI'⟩ := CS_fr hCS'
      refine hk _ _ _ ⟨i + 1, G', now', r1, r2, tr', rfl, by omega, hCS', hn', fun τ u w hτ hu hw => ?_, fun τ hτ => ?_⟩ ?_
      · by_cases c : τ ≤ i
        · rw [hG' τ u (by omega), hG' τ w (by omega)]
          exact hG1 τ u w c hu hw
        · have e1 : τ = i + 1 := by omega
          subst e1
          rw [frI_late hI' hn' (by omega) u hu, frI_late hI' hn' (by omega) w hw, hR' u w hu hw]
          refine Gv_iff (fun a b => ⟨?_, ?_⟩) u w
          · rintro (⟨k, hk, z⟩ | ⟨z1, z2⟩)
            · exact ⟨k, ⟨hk.1, hk.2.imp (fun q => by omega) id⟩, z⟩
            · exact ⟨i, ⟨hlt, Or.inl (by omega)⟩, z1, z2⟩
          · rintro ⟨k, hk, z⟩
            by_cases c2 : k = i
            · subst c2; exact Or.inr z
            · exact Or.inl ⟨k, ⟨hk.1, hk.2.imp (fun q => by omega) id⟩, z⟩
      · by_cases c : τ < i
        · exact hno τ c
        · have e1 : τ = i := by omega
          subst e1
          exact fun hg => h2 τ (by omega) ((hG1 τ a b (Nat.le_refl _) ha hb).mpr hg)
      · rw [nI_clamp (by omega), nI_clamp (by omega)]
        omega
/-- what is kept in the object holds -/
def SaI (N : Nat) (tm : Nat → Option (Nat × Nat)) (l r : Nat → Nat) (n : Nat) (S : SaS) (E R : FoS) : Prop :=
  (¬ sa_byEquationsHolds S = 0 → FoX N E (fun τ => Gv N tm (Eqs l r (fun k => k < τ ∧ k < n)))) ∧ (¬ sa_byRoundsHolds S = 0 → FoX N R (Rd N tm (Eqs l r (fun k => k < n)))) ∧
  (¬ sa_reasonsHold S = 0 → ∃ a b, sa_reasonsOne S = nI a ∧ sa_reasonsOther S = nI b ∧ a < N ∧ b < N ∧ RS N tm l r n a b (fun k => bt64 (sa_reasons S) k = true))
theorem reasons_loop (hT : teA N tm T) (hQ : paA N 60 Q n l r) {E : FoS} {a b : Nat} (ha : a < N) (hb : b < N) (hall : Gv N tm (Eqs l r (fun k => k < n)) a b) {j : Nat} (hj : j ≤ n) (hj1 : Gv N tm (Kq l r n 0 j) a b) (hj2 : ∀ i, i < j → ¬ Gv N tm (Kq l r n 0 i) a b) {post : Int64 → SaS → ClS → FoS → FoS → Prop}
    (hp : ∀ x C' Y', RS N tm l r n a b (fun k => bt64 x k = true) → post x (sa_s_reasons (sa_s_reasonsOther (sa_s_reasonsOne (sa_s_reasonsHold S (1 : Int32)) (nI a)) (nI b)) x) C' E Y') : ∃ m : Nat, wl5 (B_X4_reasonsOf_44 S T Q (nI a) (nI b) (K_X4_reasonsOf_44_84 S E (nI a) (nI b) post)) m (0 : Int64) (nI j) (0 : Int32) C Y := by
  have hn := hQ.2.1
  have hz : ∀ k, bt64 (0 : Int64) k = false := by
    intro k
    show (0#64).getLsbD k = false
    simp
  refine wl5_ind (fun x l5 l6 C Y => ∃ j i, l5 = nI j ∧ l6 = nI i ∧ i + j ≤ 60 ∧ j ≤ n ∧ (∀ k, bt64 x k = true → j ≤ k ∧ k < n) ∧ (∀ e, j ≤ e → e < n → (bt64 x e = true ↔ ¬ Gv N tm (Eqs l r (fun k => k < n ∧ (k < e ∨ (e < k ∧ bt64 x k = true)))) a b)) ∧ Gv N tm (Kq l r n x j) a b ∧ ∀ i, i < j → ¬ Gv N tm (Kq l r n x i) a b) (fun _ _ l6 _ _ => 60 - l6.toNatClampNeg) ?_ _ _ _ _ _ ⟨j, 0, rfl, rfl, by omega, hj, fun k hk => by rw [hz k] at hk; exact absurd hk (by decide), fun e h1 h2 => ?_, hj1, hj2⟩
  · rintro kb x l5 l6 C Y ⟨j, i, rfl, rfl, hij, hj, hbit, hch, hg, hno⟩ hk
    have fin : j = 0 → K_X4_reasonsOf_44_84 S E (nI a) (nI b) post x (nI j) (nI i) C Y := by
      intro e0
      subst e0
      exact hp x C Y ⟨fun k hk => (hbit k hk).2, fun e he => hch e (Nat.zero_le _) he⟩
    unfold B_X4_reasonsOf_44
    refine pk_le 60 i (fun hle => fin (by omega)) (fun hlt => ?_)
    refine pk_le j 0 (fun hle => fin (by omega)) (fun hj0 => ?_)
    intro x8 e8
    rw [show nI j - (1 : Int32) = nI (j - 1) from pk_sub (b := 1) (by omega)] at e8
    have hb8 : ∀ k, k < 64 → bt64 x8 k = (bt64 x k || decide (k = j - 1)) := by
      intro k hk
      rw [e8]; exact b6_or (by omega) hk
    have hb8' : ∀ k, bt64 x8 k = true ↔ bt64 x k = true ∨ k = j - 1 := by
      intro k
      by_cases c : k < 64
      · rw [hb8 k c]; simp
      · have z1 : ∀ y : Int64, bt64 y k = false := fun y => BitVec.getLsbD_of_ge _ _ (by omega)
        rw [z1, z1]
        constructor
        · intro q; cases q
        · intro q
          rcases q with q | q
          · cases q
          · omega
    refine closeOver_ok hT hQ (fun C2 Y2 G2 q1 q2 tr h0 hR0 => ?_)
    refine enough_ok hT hQ ha hb hall h0 hR0 (fun C' Y' j' hj' hg' hno' => ?_)
    have hle : j' ≤ j - 1 := by
      by_cases c : j - 1 < j'
      · refine absurd (Gv_mono (fun u w ⟨k, hk2, z⟩ => Gv_sub ⟨k, ⟨hk2.1, ?_⟩, z⟩) hg) (hno' (j - 1) c)
        rcases hk2.2 with q | q
        · by_cases c2 : k = j - 1
          · exact Or.inr ((hb8' k).mpr (Or.inr c2))
          · exact Or.inl (by omega)
        · exact Or.inr ((hb8' k).mpr (Or.inl q))
      · omega
    refine hk _ _ _ _ _ ⟨j', i + 1, rfl, nI_1 i, by omega, by omega, fun k hk2 => ?_, fun e h1 h2 => ?_, hg', hno'⟩ ?_
    · rcases (hb8' k).mp hk2 with q | q
      · have := hbit k q; omega
      · omega
    · by_cases c : j ≤ e
      · rw [hb8' e, show (bt64 x e = true ∨ e = j - 1) ↔ bt64 x e = true from ⟨fun q => q.elim id (fun z => by omega), Or.inl⟩, hch e c h2]
        refine not_congr (Gv_iff (fun u w => Eqs_iff (fun k => ?_) u w) a b)
        rw [hb8' k]
        constructor
        · rintro ⟨z1, z2 | z2⟩
          · exact ⟨z1, Or.inl z2⟩
          · exact ⟨z1, Or.inr ⟨z2.1, Or.inl z2.2⟩⟩
        · rintro ⟨z1, z2 | ⟨z2, z3 | z3⟩⟩
          · exact ⟨z1, Or.inl z2⟩
          · exact ⟨z1, Or.inr ⟨z2, z3⟩⟩
          · omega
      · by_cases c2 : e = j - 1
        · refine ⟨fun _ hgv => hno (j - 1) (by omega) (Gv_mono (fun u w ⟨k, hk2, z⟩ => Gv_sub ⟨k, ⟨hk2.1, ?_⟩, z⟩) hgv), fun _ => (hb8' e).mpr (Or.inr c2)⟩
          rcases hk2.2 with q | q
          · exact Or.inl (by omega)
          · rcases (hb8' k).mp q.2 with q2 | q2
            · exact Or.inr q2
            · omega
        · have hnb : ¬ bt64 x8 e = true := by
            intro q
            rcases (hb8' e).mp q with q2 | q2
            · have := hbit e q2; omega
            · exact c2 q2
          refine ⟨fun q => absurd q hnb, fun q => absurd (Gv_mono (fun u w ⟨k, hk2, z⟩ => Gv_sub ⟨k, ⟨hk2.1, ?_⟩, z⟩) hg') q⟩
          rcases hk2.2 with q | q
          · exact Or.inl (by omega)
          · refine Or.inr ⟨?_, q⟩
            rcases (hb8' k).mp q with q2 | q2
            · have := hbit k q2; omega
            · omega
    · rw [nI_1, nI_clamp (by omega), nI_clamp (by omega)]
      omega
  · rw [hz e]
    refine ⟨fun q => absurd q (by decide), fun q => absurd (Gv_mono (fun u w ⟨k, hk2, z⟩ => Gv_sub ⟨k, ⟨hk2.1, ?_⟩, z⟩) hj1) q⟩
    rcases hk2.2 with q | q
    · exact Or.inl (by omega)
    · rw [hz k] at q; cases q
theorem equationAt_ok {x : Int64} {q : Int32} {post : Int32 → Prop} (h1 : ∀ i, i < 60 → bt64 x i = true → nI (cnt (bt64 x) i) = q → post (nI i)) (h2 : (∀ i, i < 60 → bt64 x i = true → ¬ nI (cnt (bt64 x) i) = q) → post (-1)) : wp_X4_equationAt x q post := by
  unfold wp_X4_equationAt
  refine wl2_ind (fun l3 l4 => ∃ i, i ≤ 60 ∧ l3 = nI (cnt (bt64 x) i) ∧ l4 = nI i ∧ ∀ k, k < i → bt64 x k = true → ¬ nI (cnt (bt64 x) k) = q) (fun _ l4 => 60 - l4.toNatClampNeg) ?_ _ _ ⟨0, by omega, rfl, rfl, fun k hk => absurd hk (Nat.not_lt_zero _)⟩
  rintro kb l3 l4 ⟨i, hi, rfl, rfl, hno⟩ hk
  unfold B_X4_equationAt_5
  refine pk_le 60 i (fun hle => ?_) (fun hlt => ?_)
  · have e1 : i = 60 := by omega
    subst e1
    exact h2 hno
  · have hm : 60 - (nI i + 1).toNatClampNeg < 60 - (nI i).toNatClampNeg := by
      rw [nI_1, nI_clamp (by omega), nI_clamp (by omega)]
      omega
    rw [b6_lushr (x := x) (show i < 64 by omega)]
    refine ⟨fun hb => ?_, fun hb => ?_⟩
    · refine hk _ _ ⟨i + 1, by omega, ?_, nI_1 i, fun k hk2 hkb => ?_⟩ hm
      · simp [cnt, hb]
      · by_cases c : k = i
        · rw [c, hb] at hkb; cases hkb
        · exact hno k (by omega) hkb
    · have hb : bt64 x i = true := by
        cases h9 : bt64 x i with
        | true => rfl
        | false => exact absurd h9 hb
      refine ⟨fun hq => h1 i hlt hb hq, fun hq => ?_⟩
      refine hk _ _ ⟨i + 1, by omega, ?_, nI_1 i, fun k hk2 hkb => ?_⟩ hm
      · simp only [cnt, hb, if_true]; exact nI_1 _
      · by_cases c : k = i
        · rw [c]; exact hq
        · exact hno k (by omega) hkb
end RE

/-! PURE: the reference: labels -/
/-- the reference's picture, but for its labels -/
def moA (N : Nat) (tm : Nat → Option (Nat × Nat)) (n : Nat) (l r : Nat → Nat) (dn : Nat) (dl dr : Nat → Nat) (An : Nat) (ap : Nat → Nat) (M : MoS) : Prop :=
  mo_terms M = nI N ∧ N ≤ 250 ∧ (∀ j, j < N → mo_first M j = oI ((tm j).map (fun q => q.1)) ∧ mo_second M j = oI ((tm j).map (fun q => q.2))) ∧
  mo_equations M = nI n ∧ n ≤ 60 ∧ (∀ j, j < n → mo_left M j = nI (l j) ∧ mo_right M j = nI (r j) ∧ l j < N ∧ r j < N) ∧
  mo_differences M = nI dn ∧ dn ≤ 30 ∧ (∀ j, j < dn → mo_one M j = nI (dl j) ∧ mo_other M j = nI (dr j) ∧ dl j < N ∧ dr j < N) ∧
  mo_applied M = nI An ∧ An ≤ N ∧ (∀ k, k < An → mo_applications M k = nI (ap k) ∧ ap k < N ∧ ∃ a b, tm (ap k) = some (a, b)) ∧
  (∀ j a b, j < N → tm j = some (a, b) → ∃ k, k < An ∧ ap k = j) ∧ (∀ j a b, j < N → tm j = some (a, b) → a < j ∧ b < j)
def lbA (N : Nat) (M : MoS) (lab : Nat → Nat) : Prop := ∀ j, j < N → mo_label M j = nI (lab j) ∧ lab j ≤ j ∧ lab (lab j) = lab j
/-- how many labels -/
def lbc (N : Nat) (M : MoS) : Nat := cnt (fun k => decide (mo_label M k = nI k)) N
section MO
variable {N : Nat} {tm : Nat → Option (Nat × Nat)} {n : Nat} {l r : Nat → Nat} {dn : Nat} {dl dr : Nat → Nat} {An : Nat} {ap : Nat → Nat} {M : MoS} {lab : Nat → Nat}
theorem lbc_eq (hN : N ≤ 250) (h : lbA N M lab) : lbc N M = cnt (fun k => decide (lab k = k)) N := by
  refine cnt_congr (fun k hk => ?_)
  have q := h k hk
  rw [q.1]
  rw [decide_eq_decide]
  exact nI_eq (by omega) (by omega)
theorem apart_ok (hM : moA N tm n l r dn dl dr An ap M) {post : MoS → Prop} (hp : ∀ f, lbA N (mo_s_label M f) (fun x => x) → post (mo_s_label M f)) : wp_X5_apart M post := by
  have hN := hM.2.1
  unfold wp_X5_apart
  refine wl2_ind (fun l1 M1 => ∃ i f, l1 = nI i ∧ i ≤ N ∧ M1 = mo_s_label M f ∧ ∀ j, j < i → f j = nI j) (fun l1 _ => 250 - l1.toNatClampNeg) ?_ _ _ ⟨0, mo_label M, rfl, Nat.zero_le _, rfl, fun j hj => absurd hj (Nat.not_lt_zero _)⟩
  rintro kb l1 M1 ⟨i, f, rfl, hi, rfl, hf⟩ hk
  unfold B_X5_apart_2
  show (mo_terms M ≤ nI i → _) ∧ (¬ mo_terms M ≤ nI i → _)
  rw [hM.1]
  refine pk_le N i (fun hle => ?_) (fun hlt => ?_)
  · have e1 : i = N := by omega
    subst e1
    exact hp f (fun j hj => ⟨hf j hj, Nat.le_refl _, rfl⟩)
  · refine ⟨pk_in i 250 (by omega), ?_⟩
    rw [nI_clamp (show i < 2 ^ 31 by omega)]
    refine hk _ _ ⟨i + 1, upd f i (nI i), nI_1 i, by omega, rfl, fun j hj => ?_⟩ ?_
    · by_cases c : j = i
      · rw [c]; exact pk_us
      · rw [pk_un c]; exact hf j (by omega)
    · rw [nI_1, nI_clamp (by omega), nI_clamp (by omega)]
      omega
/-- the labels behind a merging of the labels x and y -/
def mgl (lab : Nat → Nat) (lo hi : Nat) : Nat → Nat := fun k => if lab k = hi then lo else lab k
theorem mgl_A (h : ∀ j, j < N → lab j ≤ j ∧ lab (lab j) = lab j) {lo hi : Nat} (hlo : lab lo = lo) (hlt : lo < hi) : ∀ j, j < N → mgl lab lo hi j ≤ j ∧ mgl lab lo hi (mgl lab lo hi j) = mgl lab lo hi j := by
  intro j hj
  have q := h j hj
  unfold mgl
  by_cases c : lab j = hi
  · rw [if_pos c]
    refine ⟨by omega, ?_⟩
    rw [hlo, if_neg (by omega)]
  · rw [if_neg c]
    refine ⟨q.1, ?_⟩
    rw [q.2, if_neg c]
theorem mgl_rel {lo hi : Nat} (hne : lo ≠ hi) (u w : Nat) : mgl lab lo hi u = mgl lab lo hi w ↔ lab u = lab w ∨ (lab u = lo ∧ lab w = hi) ∨ (lab u = hi ∧ lab w = lo) := by
  unfold mgl
  by_cases c1 : lab u = hi
  · rw [if_pos c1]
    by_cases c2 : lab w = hi
    · rw [if_pos c2]; simp [c1, c2]
    · rw [if_neg c2, c1]
      constructor
      · intro z; exact Or.inr (Or.inr ⟨rfl, z.symm⟩)
      · rintro (z | z | z)
        · exact absurd z.symm c2
        · exact absurd z.2 c2
        · exact z.2.symm
  · rw [if_neg c1]
    by_cases c2 : lab w = hi
    · rw [if_pos c2, c2]
      constructor
      · intro z; exact Or.inr (Or.inl ⟨z, rfl⟩)
      · rintro (z | z | z)
        · exact absurd z c1
        · exact z.1
        · exact absurd z.1 c1
    · rw [if_neg c2]
      constructor
      · intro z; exact Or.inl z
      · rintro (z | z | z)
        · exact z
        · exact absurd z.2 c2
        · exact absurd z.1 c1
theorem mgl_cnt (h : ∀ j, j < N → lab j ≤ j ∧ lab (lab j) = lab j) {lo hi : Nat} (hlo : lab lo = lo) (hhi : lab hi = hi) (hlt : lo < hi) (hN : hi < N) : cnt (fun k => decide (mgl lab lo hi k = k)) N < cnt (fun k => decide (lab k = k)) N := by
  have key : cnt (fun k => decide (lab k = k)) N = cnt (fun k => decide (mgl lab lo hi k = k)) N + 1 := by
    refine cnt_sub1 (z := hi) (by simp [hhi]) ?_ hN (fun k hk hkz => ?_)
    · unfold mgl
      rw [if_pos hhi]
      simp
      omega
    · rw [decide_eq_decide]
      unfold mgl
      by_cases c : lab k = hi
      · rw [if_pos c, c]
        constructor
        · intro z; exact absurd z.symm hkz
        · intro z; rw [← z, hlo] at c; omega
      · rw [if_neg c]
  omega
theorem merge_ok (hM : moA N tm n l r dn dl dr An ap M) (hL : lbA N M lab) {a b : Nat} (ha : a < N) (hb : b < N) {post : Int32 → MoS → Prop}
    (h0 : lab a = lab b → post (0 : Int32) M) (h1 : ∀ f lab', lab a ≠ lab b → lbA N (mo_s_label M f) lab' → (∀ u w, lab' u = lab' w ↔ lab u = lab w ∨ (lab u = lab a ∧ lab w = lab b) ∨ (lab u = lab b ∧ lab w = lab a)) → lbc N (mo_s_label M f) < lbc N M → post (1 : Int32) (mo_s_label M f)) : wp_X5_merge M (nI a) (nI b) post := by
  have hN := hM.2.1
  have qa := hL a ha
  have qb := hL b hb
  unfold wp_X5_merge
  refine ⟨pk_in a 250 (by omega), ?_⟩
  rw [nI_clamp (show a < 2 ^ 31 by omega), qa.1]
  intro x2 e2
  subst e2
  refine ⟨pk_in b 250 (by omega), ?_⟩
  rw [nI_clamp (show b < 2 ^ 31 by omega), qb.1]
  intro x4 e4
  subst e4
  refine pk_eq (lab a) (lab b) h0 (fun hne => ?_)
  have lp : ∀ lo hi, lo < hi → hi < N → lab lo = lo → lab hi = hi → ((lo = lab a ∧ hi = lab b) ∨ (lo = lab b ∧ hi = lab a)) → ∃ k : Nat, wl2 (B_X5_merge_54 (nI lo) (nI hi) (K_X5_merge_54_100 post)) k (0 : Int32) M := by
    intro lo hi hlt hhN hlo hhi hpr
    refine wl2_ind (fun l7 M1 => ∃ i f, l7 = nI i ∧ i ≤ N ∧ M1 = mo_s_label M f ∧ (∀ j, j < i → f j = nI (mgl lab lo hi j)) ∧ ∀ j, i ≤ j → f j = mo_label M j) (fun l7 _ => 250 - l7.toNatClampNeg) ?_ _ _ ⟨0, mo_label M, rfl, Nat.zero_le _, rfl, fun j hj => absurd hj (Nat.not_lt_zero _), fun _ _ => rfl⟩
    rintro kb l7 M1 ⟨i, f, rfl, hi2, rfl, hf, hf2⟩ hk
    unfold B_X5_merge_54
    show (mo_terms M ≤ nI i → _) ∧ (¬ mo_terms M ≤ nI i → _)
    rw [hM.1]
    refine pk_le N i (fun hle => ?_) (fun hlt2 => ?_)
    · have e1 : i = N := by omega
      subst e1
      have hA' : lbA i (mo_s_label M f) (mgl lab lo hi) := fun j hj => ⟨hf j hj, mgl_A (fun j hj => (hL j hj).2) hlo hlt j hj⟩
      refine h1 f (mgl lab lo hi) hne hA' (fun u w => ?_) ?_
      · rw [mgl_rel (Nat.ne_of_lt hlt)]
        rcases hpr with ⟨p1, p2⟩ | ⟨p1, p2⟩
        · rw [p1, p2]
        · rw [p1, p2]
          constructor
          · rintro (z | z | z)
            · exact Or.inl z
            · exact Or.inr (Or.inr z)
            · exact Or.inr (Or.inl z)
          · rintro (z | z | z)
            · exact Or.inl z
            · exact Or.inr (Or.inr z)
            · exact Or.inr (Or.inl z)
      · rw [lbc_eq hN hA', lbc_eq hN hL]
        exact mgl_cnt (fun j hj => (hL j hj).2) hlo hhi hlt hhN
    · refine ⟨pk_in i 250 (by omega), ?_⟩
      rw [nI_clamp (show i < 2 ^ 31 by omega)]
      have q := hL i hlt2
      have hfi : f i = nI (lab i) := (hf2 i (Nat.le_refl _)).trans q.1
      have hm : 250 - (nI i + 1).toNatClampNeg < 250 - (nI i).toNatClampNeg := by
        rw [nI_1, nI_clamp (by omega), nI_clamp (by omega)]
        omega
      show (f i = nI hi → kb (nI i + 1) (mo_s_label M (upd f i (nI lo)))) ∧ (¬ f i = nI hi → kb (nI i + 1) (mo_s_label M (upd f i (f i))))
      rw [hfi]
      refine pk_eq (lab i) hi (fun c => ?_) (fun c => ?_)
      · refine hk _ _ ⟨i + 1, upd f i (nI lo), nI_1 i, by omega, rfl, fun j hj => ?_, fun j hj => ?_⟩ hm
        · by_cases c2 : j = i
          · rw [c2, pk_us]; unfold mgl; rw [if_pos c]
          · rw [pk_un c2]; exact hf j (by omega)
        · rw [pk_un (by omega)]; exact hf2 j (by omega)
      · refine hk _ _ ⟨i + 1, upd f i (nI (lab i)), nI_1 i, by omega, rfl, fun j hj => ?_, fun j hj => ?_⟩ hm
        · by_cases c2 : j = i
          · rw [c2, pk_us]; unfold mgl; rw [if_neg c]
          · rw [pk_un c2]; exact hf j (by omega)
        · rw [pk_un (by omega)]; exact hf2 j (by omega)
  refine pk_le (lab b) (lab a) (fun hle => ?_) (fun hlt => ?_)
  · exact lp (lab b) (lab a) (by omega) (by omega) qb.2.2 qa.2.2 (Or.inr ⟨rfl, rfl⟩)
  · exact lp (lab a) (lab b) hlt (by omega) qa.2.2 qb.2.2 (Or.inl ⟨rfl, rfl⟩)
end MO

/-! PURE: the two sides, call by call -/
/-- the class and the reference hold one state -/
def Sys (S : SaS) (T : TeS) (Q D : PaS) (E R : FoS) (M : MoS) : Prop := ∃ N tm n l r dn dl dr An ap, teA N tm T ∧ paA N 60 Q n l r ∧ paA N 30 D dn dl dr ∧ moA N tm n l r dn dl dr An ap M ∧ SaI N tm l r n S E R
section SY
variable {S : SaS} {T : TeS} {Q D : PaS} {C : ClS} {E R Y : FoS} {M : MoS} {N : Nat} {tm : Nat → Option (Nat × Nat)} {n : Nat} {l r : Nat → Nat} {dn : Nat} {dl dr : Nat → Nat} {An : Nat} {ap : Nat → Nat}
theorem has_ok (hT : teA N tm T) {x : Int32} {post : Int32 → Prop} (h1 : ∀ a, a < N → x = nI a → post 1) (h0 : (∀ a, a < N → x ≠ nI a) → post 0) : wp_X3_has T x post := by
  have hN := hT.2.1
  unfold wp_X3_has
  rw [hT.1]
  refine ⟨fun hx => h0 (fun a ha e => ?_), fun hx => ?_⟩
  · rw [e] at hx; exact nI_pos (by omega) hx
  · obtain ⟨a, ha, rfl⟩ := nI_of hx
    refine pk_le N a (fun hle => h0 (fun b hb e => ?_)) (fun hlt => h1 a hlt rfl)
    have := nI_inj ha (by omega) e
    omega
theorem phas_ok {cap : Nat} {P : PaS} (hcap : cap ≤ 60) (hP : paA N cap P n l r) {x : Int32} {post : Int32 → Prop} (h1 : ∀ a, a < n → x = nI a → post 1) (h0 : (∀ a, a < n → x ≠ nI a) → post 0) : wp_X2_has cap P x post := by
  have hn := hP.2.1
  unfold wp_X2_has
  rw [hP.1]
  refine ⟨fun hx => h0 (fun a ha e => ?_), fun hx => ?_⟩
  · rw [e] at hx; exact nI_pos (by omega) hx
  · obtain ⟨a, ha, rfl⟩ := nI_of hx
    refine pk_le n a (fun hle => h0 (fun b hb e => ?_)) (fun hlt => h1 a hlt rfl)
    have := nI_inj ha (by omega) e
    omega
theorem areTerms_ok (hT : teA N tm T) {x y : Int32} {post : Int32 → Prop} (h1 : ∀ a b, a < N → b < N → x = nI a → y = nI b → post 1) (h0 : (¬ ((∃ a, a < N ∧ x = nI a) ∧ ∃ b, b < N ∧ y = nI b)) → post 0) : wp_X4_areTerms S T x y post := by
  unfold wp_X4_areTerms
  refine has_ok hT (fun a ha ea => ?_) (fun hx => ?_)
  · refine ⟨fun z => absurd z (by decide), fun _ => ?_⟩
    refine has_ok hT (fun b hb eb => ?_) (fun hy => ?_)
    · exact ⟨fun z => absurd z (by decide), fun _ => h1 a b ha hb ea eb⟩
    · exact ⟨fun _ => h0 (fun ⟨_, b, hb, eb⟩ => hy b hb eb), fun z => absurd rfl z⟩
  · exact ⟨fun _ => h0 (fun ⟨⟨a, ha, ea⟩, _⟩ => hx a ha ea), fun z => absurd rfl z⟩
/-- the reference's test of a range -/
theorem in_ok {k : Nat} (hk : k < 2 ^ 30) {x : Int32} {post : Int32 → Prop} (h1 : ∀ a, a < k → x = nI a → post 1) (h0 : (∀ a, a < k → x ≠ nI a) → post 0) : wp_X5_in x (0 : Int32) (nI k - 1) post := by
  unfold wp_X5_in
  refine ⟨fun hx => h0 (fun a ha e => ?_), fun hx => ?_⟩
  · rw [e] at hx; exact nI_pos (by omega) hx
  · obtain ⟨a, ha, rfl⟩ := nI_of hx
    have e1 : (nI k - 1).toInt = (k : Int) - 1 := pk_sub_toInt (b := 1) hk (by decide)
    have e2 : (nI k - 1 < nI a) ↔ k ≤ a := by
      rw [Int32.lt_iff_toInt_lt, e1, nI_toInt ha]
      omega
    refine ⟨fun hlt => h0 (fun b hb e => ?_), fun hlt => h1 a (Nat.lt_of_not_le (fun z => hlt (e2.mpr z))) rfl⟩
    have := nI_inj ha (by omega) e
    have := e2.mp hlt
    omega
theorem isTerm_ok (hM : moA N tm n l r dn dl dr An ap M) {x : Int32} {post : Int32 → Prop} (h1 : ∀ a, a < N → x = nI a → post 1) (h0 : (∀ a, a < N → x ≠ nI a) → post 0) : wp_X5_isTerm M x post := by
  unfold wp_X5_isTerm
  have hN := hM.2.1
  rw [hM.1]
  exact in_ok (by omega) (fun a ha e => ⟨Or.inr rfl, h1 a ha e⟩) (fun h => ⟨Or.inl rfl, h0 h⟩)
/-- two terms, in the reference -/
theorem two_ok (hM : moA N tm n l r dn dl dr An ap M) {x y : Int32} {A B : Prop} (h1 : ∀ a b, a < N → b < N → x = nI a → y = nI b → B) (h0 : (¬ ((∃ a, a < N ∧ x = nI a) ∧ ∃ b, b < N ∧ y = nI b)) → A) : wp_X5_isTerm M x (fun r_1 => ((r_1 = (0 : Int32) → A) ∧ (¬ r_1 = (0 : Int32) → (wp_X5_isTerm M y (fun r_3 => ((r_3 = (0 : Int32) → A) ∧ (¬ r_3 = (0 : Int32) → B))))))) := by
  refine isTerm_ok hM (fun a ha ea => ?_) (fun hx => ?_)
  · refine ⟨fun z => absurd z (by decide), fun _ => ?_⟩
    refine isTerm_ok hM (fun b hb eb => ?_) (fun hy => ?_)
    · exact ⟨fun z => absurd z (by decide), fun _ => h1 a b ha hb ea eb⟩
    · exact ⟨fun _ => h0 (fun ⟨_, b, hb, eb⟩ => hy b hb eb), fun z => absurd rfl z⟩
  · exact ⟨fun _ => h0 (fun ⟨⟨a, ha, ea⟩, _⟩ => hx a ha ea), fun z => absurd rfl z⟩
theorem one_ok (hM : moA N tm n l r dn dl dr An ap M) {x : Int32} {A B : Prop} (h1 : ∀ a, a < N → x = nI a → B) (h0 : (∀ a, a < N → x ≠ nI a) → A) : wp_X5_isTerm M x (fun r_1 => ((r_1 = (0 : Int32) → A) ∧ (¬ r_1 = (0 : Int32) → B))) := isTerm_ok hM (fun a ha ea => ⟨fun z => absurd z (by decide), fun _ => h1 a ha ea⟩) (fun hx => ⟨fun _ => h0 hx, fun z => absurd rfl z⟩)
/-- nothing is kept -/
theorem SaI_forget (E R : FoS) : SaI N tm l r n (sa_s_reasonsHold (sa_s_byRoundsHolds (sa_s_byEquationsHolds S (0 : Int32)) (0 : Int32)) (0 : Int32)) E R := ⟨fun z => absurd rfl z, fun z => absurd rfl z, fun z => absurd rfl z⟩
theorem FoX_congr {F : FoS} {H H' : Nat → Rel} (h : FoX N F H) (he : ∀ τ u w, H τ u w ↔ H' τ u w) : FoX N F H' := by
  obtain ⟨up, jt, mem, low, nxt, trees, G, now, hA, hI, hG⟩ := h
  exact ⟨up, jt, mem, low, nxt, trees, G, now, hA, hI, fun τ u w hτ hu hw => (hG τ u w hτ hu hw).trans (he τ u w)⟩
end SY

/-! PURE: equate, back, differ, clash, same, least, size -/
section C3
variable {S : SaS} {T : TeS} {Q D : PaS} {C : ClS} {E R Y : FoS} {M : MoS} {N : Nat} {tm : Nat → Option (Nat × Nat)} {n : Nat} {l r : Nat → Nat} {dn : Nat} {dl dr : Nat → Nat} {An : Nat} {ap : Nat → Nat}
theorem padd_ok {cap : Nat} {P : PaS} (hcap : cap ≤ 60) (hP : paA N cap P n l r) {a b : Nat} (ha : a < N) (hb : b < N) {post : Int32 → PaS → Prop} (h1 : ∀ P', n < cap → paA N cap P' (n + 1) (fun k => if k = n then a else l k) (fun k => if k = n then b else r k) → post (nI n) P') (h0 : n = cap → post (-3) P) : wp_X2_add cap P (nI a) (nI b) post := by
  have hn := hP.2.1
  unfold wp_X2_add
  rw [hP.1]
  refine pk_lt n cap (fun hlt => ?_) (fun hge => h0 (by omega))
  refine ⟨pk_in n cap hlt, ?_⟩
  rw [nI_clamp (show n < 2 ^ 31 by omega), show nI n + (1 : Int32) = nI (n + 1) from nI_1 n, show nI (n + 1) - (1 : Int32) = nI n from nI_pred n]
  refine h1 _ hlt ⟨rfl, by omega, fun j hj => ?_⟩
  show upd (pa_left P) n (nI a) j = nI (if j = n then a else l j) ∧ upd (pa_right P) n (nI b) j = nI (if j = n then b else r j) ∧ (if j = n then a else l j) < N ∧ (if j = n then b else r j) < N
  by_cases c : j = n
  · subst c; rw [pk_us, pk_us]; simp only [if_true]; exact ⟨trivial, trivial, ha, hb⟩
  · rw [pk_un c, pk_un c]; simp only [if_neg c]; exact hP.2.2 j (by omega)
theorem L_equate (h : Sys S T Q D E R M) {x y : Int32} {K : SaS → PaS → MoS → Prop} {Z : Prop} (hK : ∀ S' Q' M', Sys S' T Q' D E R M' → K S' Q' M') : wp_X4_equate S T Q x y (fun r3 S4 Q5 => wp_X5_equate M x y (fun r8 M9 => ((r3 = r8 → K S4 Q5 M9) ∧ (¬ r3 = r8 → Z)))) := by
  have h00 := h
  obtain ⟨N, tm, n, l, r, dn, dl, dr, An, ap, hT, hQ, hD, hM, hS⟩ := h
  have hN := hT.2.1
  have hme := hM.2.2.2.1
  unfold wp_X4_equate
  refine areTerms_ok hT (fun a b ha hb ea eb => ?_) (fun hbad => ?_)
  · subst ea; subst eb
    refine ⟨fun z => absurd z (by decide), fun _ => ?_⟩
    unfold wp_X4_forget
    show wp_X2_add 60 Q (nI a) (nI b) _
    refine padd_ok (Nat.le_refl _) hQ ha hb (fun Q' hlt hQ' => ?_) (fun hfull => ?_)
    · unfold wp_X5_equate
      refine two_ok hM (fun _ _ _ _ _ _ => ?_) (fun z => absurd ⟨⟨a, ha, rfl⟩, b, hb, rfl⟩ z)
      rw [hme]
      refine pk_eq n 60 (fun z => by omega) (fun _ => ?_)
      refine ⟨pk_in n 60 hlt, ?_⟩
      rw [nI_clamp (show n < 2 ^ 31 by omega), show nI n + (1 : Int32) = nI (n + 1) from nI_1 n, show nI (n + 1) - (1 : Int32) = nI n from nI_pred n]
      refine ⟨fun _ => hK _ _ _ ⟨N, tm, n + 1, _, _, dn, dl, dr, An, ap, hT, hQ', hD, ?_, SaI_forget E R⟩, fun z => absurd rfl z⟩
      obtain ⟨m1, m2, m3, m4, m5, m6, m7, m8, m9, m10, m11, m12, m13, m14⟩ := hM
      refine ⟨m1, m2, m3, rfl, by omega, fun j hj => ?_, m7, m8, m9, m10, m11, m12, m13, m14⟩
      show upd (mo_left M) n (nI a) j = nI (if j = n then a else l j) ∧ upd (mo_right M) n (nI b) j = nI (if j = n then b else r j) ∧ (if j = n then a else l j) < N ∧ (if j = n then b else r j) < N
      by_cases c : j = n
      · subst c; rw [pk_us, pk_us]; simp only [if_true]; exact ⟨trivial, trivial, ha, hb⟩
      · rw [pk_un c, pk_un c]; simp only [if_neg c]; exact m6 j (by omega)
    · unfold wp_X5_equate
      refine two_ok hM (fun _ _ _ _ _ _ => ?_) (fun z => absurd ⟨⟨a, ha, rfl⟩, b, hb, rfl⟩ z)
      rw [hme]
      refine pk_eq n 60 (fun _ => ?_) (fun z => absurd hfull z)
      exact ⟨fun _ => hK _ _ _ ⟨N, tm, n, l, r, dn, dl, dr, An, ap, hT, hQ, hD, hM, SaI_forget E R⟩, fun z => absurd rfl z⟩
  · refine ⟨fun _ => ?_, fun z => absurd rfl z⟩
    unfold wp_X5_equate
    exact two_ok hM (fun a b ha hb ea eb => absurd ⟨⟨a, ha, ea⟩, b, hb, eb⟩ hbad) (fun _ => ⟨fun _ => hK _ _ _ h00, fun z => absurd rfl z⟩)
theorem L_differ (h : Sys S T Q D E R M) {x y : Int32} {K : PaS → MoS → Prop} {Z : Prop} (hK : ∀ D' M', Sys S T Q D' E R M' → K D' M') : wp_X4_differ S T D x y (fun r3 D5 => wp_X5_differ M x y (fun r8 M9 => ((r3 = r8 → K D5 M9) ∧ (¬ r3 = r8 → Z)))) := by
  have h00 := h
  obtain ⟨N, tm, n, l, r, dn, dl, dr, An, ap, hT, hQ, hD, hM, hS⟩ := h
  have hN := hT.2.1
  have hmd := hM.2.2.2.2.2.2.1
  unfold wp_X4_differ
  refine areTerms_ok hT (fun a b ha hb ea eb => ?_) (fun hbad => ?_)
  · subst ea; subst eb
    refine ⟨fun z => absurd z (by decide), fun _ => ?_⟩
    refine padd_ok (by decide) hD ha hb (fun D' hlt hD' => ?_) (fun hfull => ?_)
    · unfold wp_X5_differ
      refine two_ok hM (fun _ _ _ _ _ _ => ?_) (fun z => absurd ⟨⟨a, ha, rfl⟩, b, hb, rfl⟩ z)
      rw [hmd]
      refine pk_eq dn 30 (fun z => by omega) (fun _ => ?_)
      refine ⟨pk_in dn 30 hlt, ?_⟩
      rw [nI_clamp (show dn < 2 ^ 31 by omega), show nI dn + (1 : Int32) = nI (dn + 1) from nI_1 dn, show nI (dn + 1) - (1 : Int32) = nI dn from nI_pred dn]
      refine ⟨fun _ => hK _ _ ⟨N, tm, n, l, r, dn + 1, _, _, An, ap, hT, hQ, hD', ?_, hS⟩, fun z => absurd rfl z⟩
      obtain ⟨m1, m2, m3, m4, m5, m6, m7, m8, m9, m10, m11, m12, m13, m14⟩ := hM
      refine ⟨m1, m2, m3, m4, m5, m6, rfl, by omega, fun j hj => ?_, m10, m11, m12, m13, m14⟩
      show upd (mo_one M) dn (nI a) j = nI (if j = dn then a else dl j) ∧ upd (mo_other M) dn (nI b) j = nI (if j = dn then b else dr j) ∧ (if j = dn then a else dl j) < N ∧ (if j = dn then b else dr j) < N
      by_cases c : j = dn
      · subst c; rw [pk_us, pk_us]; simp only [if_true]; exact ⟨trivial, trivial, ha, hb⟩
      · rw [pk_un c, pk_un c]; simp only [if_neg c]; exact m9 j (by omega)
    · unfold wp_X5_differ
      refine two_ok hM (fun _ _ _ _ _ _ => ?_) (fun z => absurd ⟨⟨a, ha, rfl⟩, b, hb, rfl⟩ z)
      rw [hmd]
      refine pk_eq dn 30 (fun _ => ?_) (fun z => absurd hfull z)
      exact ⟨fun _ => hK _ _ h00, fun z => absurd rfl z⟩
  · refine ⟨fun _ => ?_, fun z => absurd rfl z⟩
    unfold wp_X5_differ
    exact two_ok hM (fun a b ha hb ea eb => absurd ⟨⟨a, ha, ea⟩, b, hb, eb⟩ hbad) (fun _ => ⟨fun _ => hK _ _ h00, fun z => absurd rfl z⟩)
theorem L_back (h : Sys S T Q D E R M) {x : Int32} {K : SaS → PaS → MoS → Prop} {Z : Prop} (hK : ∀ S' Q' M', Sys S' T Q' D E R M' → K S' Q' M') : wp_X4_back S Q x (fun r3 S4 Q5 => wp_X5_back M x (fun r8 M9 => ((r3 = r8 → K S4 Q5 M9) ∧ (¬ r3 = r8 → Z)))) := by
  have h00 := h
  obtain ⟨N, tm, n, l, r, dn, dl, dr, An, ap, hT, hQ, hD, hM, hS⟩ := h
  have hn := hQ.2.1
  have hme := hM.2.2.2.1
  unfold wp_X4_back
  rw [hQ.1]
  refine ⟨fun hx => ?_, fun hx => ?_⟩
  · unfold wp_X5_back wp_X5_in
    refine ⟨fun _ => ⟨fun _ => ⟨fun _ => hK _ _ _ h00, fun z => absurd rfl z⟩, fun z => absurd rfl z⟩, fun z => absurd hx z⟩
  · obtain ⟨j, hj, rfl⟩ := nI_of hx
    refine pk_le j n (fun hle => ?_) (fun hlt => ?_)
    · unfold wp_X4_forget
      show wp_X5_back M (nI j) _
      unfold wp_X5_back wp_X5_in
      rw [hme]
      refine ⟨fun z => absurd z hx, fun _ => ?_⟩
      refine pk_lt n j (fun z => by omega) (fun _ => ?_)
      refine ⟨fun z => absurd z (by decide), fun _ => ?_⟩
      rw [show nI n - nI j = nI (n - j) from pk_sub hle]
      refine ⟨fun _ => hK _ _ _ ⟨N, tm, n - j, l, r, dn, dl, dr, An, ap, hT, ⟨rfl, by omega, fun k hk => hQ.2.2 k (by omega)⟩, hD, ?_, SaI_forget E R⟩, fun z => absurd rfl z⟩
      obtain ⟨m1, m2, m3, m4, m5, m6, m7, m8, m9, m10, m11, m12, m13, m14⟩ := hM
      exact ⟨m1, m2, m3, rfl, by omega, fun k hk => m6 k (by omega), m7, m8, m9, m10, m11, m12, m13, m14⟩
    · unfold wp_X5_back wp_X5_in
      rw [hme]
      refine ⟨fun z => absurd z hx, fun _ => ?_⟩
      refine pk_lt n j (fun _ => ?_) (fun z => by omega)
      exact ⟨fun _ => ⟨fun _ => hK _ _ _ h00, fun z => absurd rfl z⟩, fun z => absurd rfl z⟩
/-- all equations -/
theorem all_close_ok (hM : moA N tm n l r dn dl dr An ap M) {post : MoS → Prop} (hp : ∀ f lab', lbA N (mo_s_label M f) lab' → (∀ u w, u < N → w < N → (lab' u = lab' w ↔ Gv N tm (Eqs l r (fun k => k < n)) u w)) → post (mo_s_label M f)) : wp_X5_all M (fun x => wp_X5_closeBy M x post) := by
  have hn := hM.2.2.2.2.1
  unfold wp_X5_all
  rw [hM.2.2.2.1]
  refine closeBy_ok hM (fun f lab' hL hrel => hp f lab' hL (fun u w hu hw => (hrel u w hu hw).trans (Gv_iff (fun a b => Eqs_iff (fun k => ?_) a b) u w)))
  constructor
  · exact fun z => z.1
  · intro z
    refine ⟨z, ?_⟩
    rw [b6_all n (by omega) k (by omega)]
    simp [z]
/-- when two came together, by the equations -/
theorem meetE_ok (hT : teA N tm T) (hn : n ≤ 60) (hE : FoX N E (fun τ => Gv N tm (Eqs l r (fun k => k < τ ∧ k < n)))) {a b : Nat} (ha : a < N) (hb : b < N) {post : Int32 → Prop}
    (h1 : ∀ τ, τ ≤ n → Gv N tm (Eqs l r (fun k => k < τ ∧ k < n)) a b → (∀ σ, σ < τ → ¬ Gv N tm (Eqs l r (fun k => k < σ ∧ k < n)) a b) → post (nI τ)) (h0 : ¬ Gv N tm (Eqs l r (fun k => k < n)) a b → post (-1)) : wp_X1_meeting E (nI a) (nI b) post := by
  obtain ⟨up, jt, mem, low, nxt, trees, G, now, hA, hI, hG⟩ := hE
  have hall : ∀ τ, n ≤ τ → (Gv N tm (Eqs l r (fun k => k < τ ∧ k < n)) a b ↔ Gv N tm (Eqs l r (fun k => k < n)) a b) := fun τ hτ => Gv_iff (fun x y => Eqs_iff (fun k => ⟨fun z => z.2, fun z => ⟨by omega, z⟩⟩) x y) a b
  refine meeting_ok hT.2.1 hA hI ha hb (fun τ hτ e1 e2 => ?_) (fun e2 => h0 (fun z => ?_))
  · have g1 := (hG τ a b hτ ha hb).mp e1
    have g2 : ∀ σ, σ < τ → ¬ Gv N tm (Eqs l r (fun k => k < σ ∧ k < n)) a b := fun σ hσ z => e2 σ hσ ((hG σ a b (by omega) ha hb).mpr z)
    refine h1 τ ?_ g1 g2
    by_cases c : τ ≤ n
    · exact c
    · exact absurd ((hall n (Nat.le_refl _)).mpr ((hall τ (by omega)).mp g1)) (g2 n (by omega))
  · exact e2 n (by omega) ((hG n a b (by omega) ha hb).mpr ((hall n (Nat.le_refl _)).mpr z))
theorem SaI_E (h : SaI N tm l r n S E R) {E' : FoS} {v : Int32} (hE : FoX N E' (fun τ => Gv N tm (Eqs l r (fun k => k < τ ∧ k < n)))) : SaI N tm l r n (sa_s_byEquationsHolds S v) E' R := ⟨fun _ => hE, h.2.1, h.2.2⟩
theorem SaI_R (h : SaI N tm l r n S E R) {R' : FoS} {v : Int32} (hR : FoX N R' (Rd N tm (Eqs l r (fun k => k < n)))) : SaI N tm l r n (sa_s_byRoundsHolds S v) E R' := ⟨h.1, fun _ => hR, h.2.2⟩
theorem sub_all {τ : Nat} {a b : Nat} (h : Gv N tm (Eqs l r (fun k => k < τ ∧ k < n)) a b) : Gv N tm (Eqs l r (fun k => k < n)) a b := Gv_mono (fun _ _ ⟨k, hk, z⟩ => Gv_sub ⟨k, hk.2, z⟩) h
theorem L_same (h : Sys S T Q D E R M) {x y : Int32} {K : SaS → ClS → FoS → MoS → Prop} {Z : Prop} (hK : ∀ S' C' E' M', Sys S' T Q D E' R M' → K S' C' E' M') : wp_X4_same S T Q C E x y (fun r3 S4 C5 E6 => wp_X5_same M x y (fun r8 M9 => ((r3 = r8 → K S4 C5 E6 M9) ∧ (¬ r3 = r8 → Z)))) := by
  have h00 := h
  obtain ⟨N, tm, n, l, r, dn, dl, dr, An, ap, hT, hQ, hD, hM, hS⟩ := h
  have hN := hT.2.1
  unfold wp_X4_same
  refine areTerms_ok hT (fun a b ha hb ea eb => ?_) (fun hbad => ?_)
  · subst ea; subst eb
    refine ⟨fun z => absurd z (by decide), fun _ => ?_⟩
    refine classes_ok hT hQ hS.1 (fun S' C' E' hE' hv => ?_)
    obtain ⟨v, rfl, hv⟩ := hv
    have ref : ∀ (q : Int32), (Gv N tm (Eqs l r (fun k => k < n)) a b → q = 1) → (¬ Gv N tm (Eqs l r (fun k => k < n)) a b → q = 0) → wp_X5_same M (nI a) (nI b) (fun r8 M9 => ((q = r8 → K (sa_s_byEquationsHolds S v) C' E' M9) ∧ (¬ q = r8 → Z))) := by
      intro q q1 q0
      unfold wp_X5_same
      refine two_ok hM (fun _ _ _ _ _ _ => ?_) (fun z => absurd ⟨⟨a, ha, rfl⟩, b, hb, rfl⟩ z)
      unfold wp_X5_areSame
      refine all_close_ok hM (fun f lab' hL hrel => ?_)
      refine ⟨pk_in a 250 (by omega), pk_in b 250 (by omega), ?_⟩
      rw [nI_clamp (show a < 2 ^ 31 by omega), nI_clamp (show b < 2 ^ 31 by omega), (hL a ha).1, (hL b hb).1]
      have b1 := (hL a ha).2.1
      have b2 := (hL b hb).2.1
      have hsys : Sys (sa_s_byEquationsHolds S v) T Q D E' R (mo_s_label M f) := ⟨N, tm, n, l, r, dn, dl, dr, An, ap, hT, hQ, hD, hM, SaI_E hS hE'⟩
      refine pk_eq (lab' a) (lab' b) (fun e => ?_) (fun e => ?_)
      · refine ⟨fun z => absurd z (by decide), fun _ => ?_⟩
        rw [q1 ((hrel a b ha hb).mp e)]
        exact ⟨fun _ => hK _ _ _ _ hsys, fun z => absurd rfl z⟩
      · refine ⟨fun _ => ?_, fun z => absurd rfl z⟩
        rw [q0 (fun z => e ((hrel a b ha hb).mpr z))]
        exact ⟨fun _ => hK _ _ _ _ hsys, fun z => absurd rfl z⟩
    refine meetE_ok hT hQ.2.1 hE' ha hb (fun τ hτ g1 g2 => ?_) (fun g => ?_)
    · exact ⟨fun z => absurd z (nI_ne1 (by have := hQ.2.1; omega)), fun _ => ref 1 (fun _ => rfl) (fun z => absurd (sub_all g1) z)⟩
    · exact ⟨fun _ => ref 0 (fun z => absurd z g) (fun _ => rfl), fun z => absurd rfl z⟩
  · refine ⟨fun _ => ?_, fun z => absurd rfl z⟩
    unfold wp_X5_same
    exact two_ok hM (fun a b ha hb ea eb => absurd ⟨⟨a, ha, ea⟩, b, hb, eb⟩ hbad) (fun _ => ⟨fun _ => hK _ _ _ _ h00, fun z => absurd rfl z⟩)
end C3

/-! PURE: two tops are joined; the forest is planted -/
theorem ar_upd {f : Nat → Int32} {h : Nat → Nat} {N k v : Nat} (hf : ∀ j, j < N → f j = nI (h j)) : ∀ j, j < N → upd f k (nI v) j = nI (if j = k then v else h j) := by
  intro j hj
  unfold upd
  split
  · rfl
  · exact hf j hj
def Gj (G : Nat → Nat → Nat) (s g t : Nat) : Nat → Nat → Nat := fun τ x => if t ≤ τ ∧ G τ x = s then g else G τ x
section JO
variable {N : Nat} {F : FoS} {up jt mem low nxt : Nat → Nat} {trees : Nat} {G : Nat → Nat → Nat} {now : Nat}
theorem join_trees (hI : frI N up jt mem low nxt trees G now) {s : Nat} (hs : s < N) (hus : up s = s) : 1 ≤ trees := by
  obtain ⟨h1, h2, h3⟩ := hI.2.2.2.2.2.2.2.2.1 s hs hus
  rw [hI.2.2.2.2.2.2.2.2.2.1]
  exact cnt_pos (z := low s) (by rw [h2]; simp) h1
theorem join_I (hI : frI N up jt mem low nxt trees G now) {s g t : Nat} (hs : s < N) (hg : g < N) (hus : up s = s) (hug : up g = g) (hne : s ≠ g) (ht : now ≤ t) (htn : t < 1000000) :
    frI N (fun x => if x = s then g else up x) (fun x => if x = s then t else jt x) (fun x => if x = g then mem g + mem s else mem x) (fun x => if x = g then (if low s < low g then low s else low g) else low x) (fun x => if x = g then nxt s else if x = s then nxt g else nxt x) (trees - 1) (Gj G s g t) t := by
  have hGt : ∀ x, x < N → Gj G s g t t x = if G now x = s then g else G now x := by
    intro x hx
    unfold Gj
    rw [frI_late hI ht htn x hx]
    simp
  have hTs := frI_self hI hs hus hI.2.2.2.2.1
  have hTg := frI_self hI hg hug hI.2.2.2.2.1
  have hjs := (hI.2.1 s hs).mp hus
  have hjg := (hI.2.1 g hg).mp hug
  obtain ⟨ls1, ls2, ls3⟩ := hI.2.2.2.2.2.2.2.2.1 s hs hus
  obtain ⟨lg1, lg2, lg3⟩ := hI.2.2.2.2.2.2.2.2.1 g hg hug
  have hlow : low s ≠ low g := fun e => hne (by rw [← ls2, e, lg2])
  have hms := hI.2.2.2.2.2.2.2.1 s hs hus
  have hmg := hI.2.2.2.2.2.2.2.1 g hg hug
  have hsum : mem g + mem s = cnt (fun k => decide (Gj G s g t t k = g)) N := by
    rw [hms, hmg]
    refine (cnt_or (fun k hk => ?_) (fun k hk => ?_)).symm
    · rw [hGt k hk]
      by_cases c : G now k = s
      · simp [c, hne]
      · simp [c]
    · intro ⟨h1, h2⟩
      simp only [decide_eq_true_eq] at h1 h2
      exact hne (h2.symm.trans h1)
  refine ⟨?_, ?_, ?_, ?_, htn, ?_, ?_, ?_, ?_, ?_, ?_, Or.inr ⟨s, hs, ?_, ?_⟩⟩
  · intro x hx
    show (if x = s then g else up x) < N
    split
    · exact hg
    · exact hI.1 x hx
  · intro x hx
    show (if x = s then g else up x) = x ↔ (if x = s then t else jt x) = 1000000
    by_cases c : x = s
    · subst c; simp only [if_true]; exact ⟨fun e => absurd e.symm hne, fun e => by omega⟩
    · simp only [if_neg c]; exact hI.2.1 x hx
  · intro x hx hu
    show (if x = g then mem g + mem s else mem x) < (if (if x = s then g else up x) = g then mem g + mem s else mem (if x = s then g else up x)) ∧ (if x = s then t else jt x) ≤ (if (if x = s then g else up x) = s then t else jt (if x = s then g else up x)) ∧ (if x = s then t else jt x) ≤ t
    have hu : (if x = s then g else up x) ≠ x := hu
    have m1 := (hI.2.2.2.1 s hs).1
    have m2 := (hI.2.2.2.1 g hg).1
    by_cases c : x = s
    · subst c
      simp only [if_true, if_neg hne, if_neg (Ne.symm hne)]
      omega
    · simp only [if_neg c] at hu ⊢
      have hxg : x ≠ g := fun e => hu (by rw [e]; exact hug)
      have h3 := hI.2.2.1 x hx hu
      simp only [if_neg hxg]
      refine ⟨?_, ?_, by omega⟩
      · by_cases c2 : up x = g
        · rw [if_pos c2]; rw [c2] at h3; omega
        · rw [if_neg c2]; exact h3.1
      · by_cases c2 : up x = s
        · rw [if_pos c2]; omega
        · rw [if_neg c2]; exact h3.2.1
  · intro x hx
    show 1 ≤ (if x = g then mem g + mem s else mem x) ∧ (if x = g then mem g + mem s else mem x) ≤ N
    have m1 := (hI.2.2.2.1 s hs).1
    by_cases c : x = g
    · simp only [if_pos c]
      have := cnt_le (fun k => decide (Gj G s g t t k = g)) N
      omega
    · simp only [if_neg c]; exact hI.2.2.2.1 x hx
  · intro τ x hx
    show (if x = s then t else jt x) ≤ τ → τ < 1000000 → Gj G s g t τ x = Gj G s g t τ (if x = s then g else up x)
    intro h1 h2
    unfold Gj
    by_cases c : x = s
    · subst c
      simp only [if_true] at h1 ⊢
      rw [frI_self hI hs hus h2, frI_self hI hg hug h2]
      simp [h1]
    · simp only [if_neg c] at h1 ⊢
      rw [hI.2.2.2.2.2.1 τ x hx h1 h2]
  · intro τ x hx
    show τ < (if x = s then t else jt x) → Gj G s g t τ x = x
    intro h1
    unfold Gj
    by_cases c : x = s
    · subst c
      simp only [if_true] at h1
      rw [if_neg (by omega), frI_self hI hs hus (by omega)]
    · simp only [if_neg c] at h1
      rw [hI.2.2.2.2.2.2.1 τ x hx h1, if_neg (fun e => c e.2)]
  · intro r hr
    show (if r = s then g else up r) = r → (if r = g then mem g + mem s else mem r) = _
    intro hu
    have hrs : r ≠ s := fun e => by rw [if_pos e] at hu; exact hne (e.symm.trans hu.symm)
    rw [if_neg hrs] at hu
    by_cases c : r = g
    · rw [if_pos c, hsum, c]
    · rw [if_neg c, hI.2.2.2.2.2.2.2.1 r hr hu]
      refine cnt_congr (fun k hk => ?_)
      rw [hGt k hk]
      by_cases c2 : G now k = s
      · simp [c2, Ne.symm hrs, Ne.symm c]
      · simp [c2]
  · intro r hr
    show (if r = s then g else up r) = r → (if r = g then (if low s < low g then low s else low g) else low r) < N ∧ Gj G s g t t (if r = g then (if low s < low g then low s else low g) else low r) = r ∧ ∀ k, k < N → Gj G s g t t k = r → (if r = g then (if low s < low g then low s else low g) else low r) ≤ k
    intro hu
    have hrs : r ≠ s := fun e => by rw [if_pos e] at hu; exact hne (e.symm.trans hu.symm)
    rw [if_neg hrs] at hu
    by_cases c : r = g
    · simp only [if_pos c]
      have hlt : (if low s < low g then low s else low g) < N := by split <;> assumption
      refine ⟨hlt, ?_, fun k hk e => ?_⟩
      · rw [hGt _ hlt, c]
        by_cases c2 : low s < low g
        · rw [if_pos c2, ls2]; simp
        · rw [if_neg c2, lg2]; simp
      · rw [hGt k hk, c] at e
        by_cases c2 : G now k = s
        · have := ls3 k hk c2
          split <;> omega
        · rw [if_neg c2] at e
          have := lg3 k hk e
          split <;> omega
    · simp only [if_neg c]
      obtain ⟨l1, l2, l3⟩ := hI.2.2.2.2.2.2.2.2.1 r hr hu
      refine ⟨l1, ?_, fun k hk e => ?_⟩
      · rw [hGt _ l1, l2, if_neg hrs]
      · rw [hGt k hk] at e
        by_cases c2 : G now k = s
        · rw [if_pos c2] at e; exact absurd e.symm c
        · rw [if_neg c2] at e; exact l3 k hk e
  · have h10 := hI.2.2.2.2.2.2.2.2.2.1
    have key : cnt (fun k => decide (low (G now k) = k)) N = cnt (fun k => decide ((if Gj G s g t t k = g then (if low s < low g then low s else low g) else low (Gj G s g t t k)) = k)) N + 1 := by
      have hz : (if low s < low g then low g else low s) < N := by split <;> assumption
      refine cnt_sub1 (z := if low s < low g then low g else low s) ?_ ?_ hz (fun k hk hkz => ?_)
      · by_cases c2 : low s < low g
        · simp [c2, lg2]
        · simp [c2, ls2]
      · have e1 : Gj G s g t t (if low s < low g then low g else low s) = g := by
          rw [hGt _ hz]
          by_cases c2 : low s < low g
          · rw [if_pos c2, lg2]; simp
          · rw [if_neg c2, ls2]; simp
        simp only [e1, if_true, decide_eq_false_iff_not]
        by_cases c2 : low s < low g
        · rw [if_pos c2, if_pos c2]; omega
        · rw [if_neg c2, if_neg c2]; omega
      · rw [hGt k hk]
        by_cases c : G now k = s
        · simp only [c, if_true]
          rw [decide_eq_decide]
          by_cases c2 : low s < low g
          · rw [if_pos c2]
          · rw [if_neg c2] at hkz ⊢
            refine ⟨fun e => absurd e.symm hkz, fun e => ?_⟩
            rw [← e, lg2] at c
            exact absurd c.symm hne
        · rw [if_neg c]
          by_cases c3 : G now k = g
          · rw [if_pos c3, c3, decide_eq_decide]
            by_cases c2 : low s < low g
            · rw [if_pos c2] at hkz ⊢
              refine ⟨fun e => absurd e.symm hkz, fun e => ?_⟩
              rw [← e, ls2] at c3
              exact absurd c3 hne
            · rw [if_neg c2]
          · rw [if_neg c3]
    show trees - 1 = _
    rw [h10, key]
    exact Nat.add_sub_cancel _ 1
  · intro r hr
    show (if r = s then g else up r) = r → ∃ l : List Nat, r ∉ l ∧ pth (fun x => if x = g then nxt s else if x = s then nxt g else nxt x) (if r = g then nxt s else if r = s then nxt g else nxt r) l r ∧ l.length + 1 = (if r = g then mem g + mem s else mem r) ∧ (∀ k, k ∈ l → k < N ∧ Gj G s g t t k = r) ∧ ∀ k, k < N → Gj G s g t t k = r → k = r ∨ k ∈ l
    intro hu
    have hrs : r ≠ s := fun e => by rw [if_pos e] at hu; exact hne (e.symm.trans hu.symm)
    rw [if_neg hrs] at hu
    obtain ⟨l2, a1, a2, a3, a4, a5⟩ := hI.2.2.2.2.2.2.2.2.2.2.1 r hr hu
    by_cases c : r = g
    · subst c
      obtain ⟨l1, b1, b2, b3, b4, b5⟩ := hI.2.2.2.2.2.2.2.2.2.2.1 s hs hus
      refine ⟨l1 ++ s :: l2, ?_, ?_, ?_, ?_, ?_⟩
      · intro h
        rcases List.mem_append.mp h with h | h
        · have := (b4 r h).2
          rw [hTg] at this
          exact hrs this
        · rcases List.mem_cons.mp h with h | h
          · exact hrs h
          · exact a1 h
      · rw [if_pos rfl]
        refine pth_app (b := s) (pth_congr (fun x hx => ?_) b2) ⟨rfl, ?_⟩
        · have h1 : x ≠ r := fun e => by have := (b4 x hx).2; rw [e, hTg] at this; exact hrs this
          have h2 : x ≠ s := fun e => b1 (by rw [← e]; exact hx)
          rw [if_neg h1, if_neg h2]
        · show pth _ (if s = r then nxt s else if s = s then nxt r else nxt s) l2 r
          rw [if_neg hne, if_pos rfl]
          refine pth_congr (fun x hx => ?_) a2
          have h1 : x ≠ r := fun e => a1 (by rw [← e]; exact hx)
          have h2 : x ≠ s := fun e => by have := (a4 x hx).2; rw [e, hTs] at this; exact hne this
          rw [if_neg h1, if_neg h2]
      · rw [if_pos rfl, List.length_append, List.length_cons]
        omega
      · intro k hk
        rcases List.mem_append.mp hk with h | h
        · have h3 := b4 k h
          refine ⟨h3.1, ?_⟩
          rw [hGt k h3.1, h3.2]; simp
        · rcases List.mem_cons.mp h with h | h
          · subst h
            refine ⟨hs, ?_⟩
            rw [hGt _ hs, hTs]; simp
          · have h3 := a4 k h
            refine ⟨h3.1, ?_⟩
            rw [hGt k h3.1, h3.2, if_neg (Ne.symm hne)]
      · intro k hk e
        rw [hGt k hk] at e
        by_cases c2 : G now k = s
        · rcases b5 k hk c2 with h | h
          · exact Or.inr (List.mem_append_right _ (by rw [h]; exact List.mem_cons_self ..))
          · exact Or.inr (List.mem_append_left _ h)
        · rw [if_neg c2] at e
          rcases a5 k hk e with h | h
          · exact Or.inl h
          · exact Or.inr (List.mem_append_right _ (List.mem_cons_of_mem _ h))
    · refine ⟨l2, a1, ?_, ?_, ?_, ?_⟩
      · rw [if_neg c, if_neg hrs]
        refine pth_congr (fun x hx => ?_) a2
        have h3 := (a4 x hx).2
        have h1 : x ≠ g := fun e => by rw [e, hTg] at h3; exact c h3.symm
        have h2 : x ≠ s := fun e => by rw [e, hTs] at h3; exact hrs h3.symm
        rw [if_neg h1, if_neg h2]
      · rw [if_neg c]; exact a3
      · intro k hk
        have h3 := a4 k hk
        refine ⟨h3.1, ?_⟩
        rw [hGt k h3.1, h3.2, if_neg hrs]
      · intro k hk e
        rw [hGt k hk] at e
        by_cases c2 : G now k = s
        · rw [if_pos c2] at e; exact absurd e.symm c
        · rw [if_neg c2] at e; exact a5 k hk e
  · show (if s = s then g else up s) ≠ s
    rw [if_pos rfl]; exact Ne.symm hne
  · show (if s = s then t else jt s) = t
    rw [if_pos rfl]
theorem join_ok (hN : N ≤ 250) (hA : frA N F up jt mem low nxt trees now) (hI : frI N up jt mem low nxt trees G now) {s g t : Nat} (hs : s < N) (hg : g < N) (hus : up s = s) (hug : up g = g) (hne : s ≠ g) (ht : now ≤ t) (htn : t < 1000000) {post : FoS → Prop} (hp : ∀ F', frA N F' (fun x => if x = s then g else up x) (fun x => if x = s then t else jt x) (fun x => if x = g then mem g + mem s else mem x) (fun x => if x = g then (if low s < low g then low s else low g) else low x) (fun x => if x = g then nxt s else if x = s then nxt g else nxt x) (trees - 1) t → post F') : wp_X1_join F (nI s) (nI g) (nI t) post := by
  unfold wp_X1_join
  refine ⟨pk_in s 250 (by omega), pk_in g 250 (by omega), ?_⟩
  intro x3 e3
  have hcs : (nI s).toNatClampNeg = s := nI_clamp (by omega)
  have hcg : (nI g).toNatClampNeg = g := nI_clamp (by omega)
  rw [hcs] at e3
  rw [hA.2.2.2.2.1 s hs] at e3
  subst e3
  rw [hcs, hcg]
  refine hp _ ⟨ar_upd hA.1, ar_upd hA.2.1, ?_, ?_, ?_, ?_, rfl⟩
  · show ∀ j, j < N → upd (fo_members F) g (fo_members F g + fo_members F s) j = _
    rw [hA.2.2.1 g hg, hA.2.2.1 s hs, nI_add]
    exact ar_upd hA.2.2.1
  · show ∀ j, j < N → upd (fo_lowest F) g (if fo_lowest F s < fo_lowest F g then fo_lowest F s else fo_lowest F g) j = _
    rw [hA.2.2.2.1 g hg, hA.2.2.2.1 s hs]
    have l1 := (hI.2.2.2.2.2.2.2.2.1 s hs hus).1
    have l2 := (hI.2.2.2.2.2.2.2.2.1 g hg hug).1
    have e : (if nI (low s) < nI (low g) then nI (low s) else nI (low g)) = nI (if low s < low g then low s else low g) := by
      have h := nI_ltI (a := low s) (b := low g) (by omega) (by omega)
      by_cases c : low s < low g
      · rw [if_pos c, if_pos (h.mpr c)]
      · rw [if_neg c, if_neg (fun z => c (h.mp z))]
    rw [e]
    exact ar_upd hA.2.2.2.1
  · show ∀ j, j < N → upd (upd (fo_nextMember F) s (fo_nextMember F g)) g (nI (nxt s)) j = _
    rw [hA.2.2.2.2.1 g hg]
    intro j hj
    rw [ar_upd (ar_upd hA.2.2.2.2.1) j hj]
  · show fo_trees F - (1 : Int32) = nI (trees - 1)
    rw [hA.2.2.2.2.2.1]
    exact pk_sub (b := 1) (join_trees hI hs hus)
end JO
theorem cnt_single {r N : Nat} (h : r < N) : cnt (fun k => decide (k = r)) N = 1 := by
  rw [cnt_sub1 (z := r) (q := fun _ => false) (by simp) rfl h (fun k _ hk => by simp [hk]), cnt_none (fun _ _ => rfl)]
theorem plant_I (N : Nat) : frI N (fun x => x) (fun _ => 1000000) (fun _ => 1) (fun x => x) (fun x => x) N (fun _ x => x) 0 := by
  refine ⟨fun _ h => h, fun _ _ => ⟨fun _ => rfl, fun _ => rfl⟩, fun _ _ h => absurd rfl h, fun x hx => ⟨Nat.le_refl _, Nat.lt_of_le_of_lt (Nat.zero_le _) hx⟩, by decide, fun _ _ _ h1 h2 => absurd h1 (Nat.not_le.mpr h2), fun _ _ _ _ => rfl, fun r hr _ => (cnt_single hr).symm, fun r hr _ => ⟨hr, rfl, fun k _ e => Nat.le_of_eq (Eq.symm e)⟩, (cnt_all (fun k _ => by simp)).symm, fun r hr _ => ⟨[], List.not_mem_nil, rfl, rfl, fun k h => absurd h List.not_mem_nil, fun k _ e => Or.inl e⟩, Or.inl rfl⟩
theorem plant_ok {N : Nat} (hN : N ≤ 250) {F : FoS} {post : FoS → Prop} (hp : ∀ F', frA N F' (fun x => x) (fun _ => 1000000) (fun _ => 1) (fun x => x) (fun x => x) N 0 → post F') : wp_X1_plant F (nI N) post := by
  unfold wp_X1_plant
  refine wl2_ind (fun l2 F => ∃ i, l2 = nI i ∧ i ≤ N ∧ ∀ j, j < i → fo_above F j = nI j ∧ fo_joined F j = nI 1000000 ∧ fo_members F j = nI 1 ∧ fo_lowest F j = nI j ∧ fo_nextMember F j = nI j) (fun l2 _ => 250 - l2.toNatClampNeg) ?_ _ _ ⟨0, rfl, Nat.zero_le _, fun j h => absurd h (Nat.not_lt_zero _)⟩
  rintro kb l2 F ⟨i, rfl, hi, hF⟩ hk
  unfold B_X1_plant_2
  refine pk_le N i (fun h => ?_) (fun h => ?_)
  · have e : i = N := by omega
    subst e
    exact hp _ ⟨fun j hj => (hF j hj).1, fun j hj => (hF j hj).2.1, fun j hj => (hF j hj).2.2.1, fun j hj => (hF j hj).2.2.2.1, fun j hj => (hF j hj).2.2.2.2, rfl, rfl⟩
  · refine ⟨pk_in i 250 (by omega), ?_⟩
    rw [nI_clamp (show i < 2 ^ 31 by omega)]
    refine hk _ _ ⟨i + 1, nI_1 i, by omega, fun j hj => ?_⟩ ?_
    · show upd (fo_above F) i (nI i) j = nI j ∧ upd (fo_joined F) i (1000000 : Int32) j = nI 1000000 ∧ upd (fo_members F) i (1 : Int32) j = nI 1 ∧ upd (fo_lowest F) i (nI i) j = nI j ∧ upd (fo_nextMember F) i (nI i) j = nI j
      by_cases c : j = i
      · subst c
        rw [pk_us, pk_us, pk_us, pk_us, pk_us]
        exact ⟨rfl, rfl, rfl, rfl, rfl⟩
      · rw [pk_un c, pk_un c, pk_un c, pk_un c, pk_un c]
        exact hF j (by omega)
    · rw [nI_1, nI_clamp (by omega), nI_clamp (by omega)]
      omega

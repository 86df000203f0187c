/-! PURE: the forest. up: above; jt: joined; G τ x: the top of x at the time τ -/
def pth (nxt : Nat → Nat) : Nat → List Nat → Nat → Prop
  | a, [], b => a = b
  | a, x :: l, b => a = x ∧ pth nxt (nxt x) l b
theorem pth_app {nxt : Nat → Nat} : ∀ {l l' : List Nat} {a b c : Nat}, pth nxt a l b → pth nxt b l' c → pth nxt a (l ++ l') c
  | [], _, _, _, _, h1, h2 => by cases h1; exact h2
  | _ :: _, _, _, _, _, h1, h2 => ⟨h1.1, pth_app h1.2 h2⟩
theorem pth_congr {nxt nxt' : Nat → Nat} : ∀ {l : List Nat} {a b : Nat}, (∀ x, x ∈ l → nxt' x = nxt x) → pth nxt a l b → pth nxt' a l b
  | [], _, _, _, h => h
  | x :: l, _, _, hc, h => ⟨h.1, by rw [hc x (List.mem_cons_self ..)]; exact pth_congr (fun y hy => hc y (List.mem_cons_of_mem _ hy)) h.2⟩
def frA (N : Nat) (F : FoS) (up jt mem low nxt : Nat → Nat) (trees now : Nat) : Prop :=
  (∀ j, j < N → fo_above F j = nI (up j)) ∧ (∀ j, j < N → fo_joined F j = nI (jt j)) ∧ (∀ j, j < N → fo_members F j = nI (mem j)) ∧ (∀ j, j < N → fo_lowest F j = nI (low j)) ∧ (∀ j, j < N → fo_nextMember F j = nI (nxt j)) ∧ fo_trees F = nI trees ∧ fo_latest F = nI now
def frI (N : Nat) (up jt mem low nxt : Nat → Nat) (trees : Nat) (G : Nat → Nat → Nat) (now : Nat) : Prop :=
  (∀ x, x < N → up x < N) ∧
  (∀ x, x < N → (up x = x ↔ jt x = 1000000)) ∧
  (∀ x, x < N → up x ≠ x → mem x < mem (up x) ∧ jt x ≤ jt (up x) ∧ jt x ≤ now) ∧
  (∀ x, x < N → 1 ≤ mem x ∧ mem x ≤ N) ∧
  now < 1000000 ∧
  (∀ τ x, x < N → jt x ≤ τ → τ < 1000000 → G τ x = G τ (up x)) ∧
  (∀ τ x, x < N → τ < jt x → G τ x = x) ∧
  (∀ r, r < N → up r = r → mem r = cnt (fun k => decide (G now k = r)) N) ∧
  (∀ r, r < N → up r = r → low r < N ∧ G now (low r) = r ∧ ∀ k, k < N → G now k = r → low r ≤ k) ∧
  trees = cnt (fun k => decide (low (G now k) = k)) N ∧
  (∀ r, r < N → up r = r → ∃ l : List Nat, r ∉ l ∧ pth nxt (nxt r) l r ∧ l.length + 1 = mem r ∧ (∀ k, k ∈ l → k < N ∧ G now k = r) ∧ ∀ k, k < N → G now k = r → k = r ∨ k ∈ l) ∧
  (now = 0 ∨ ∃ x, x < N ∧ up x ≠ x ∧ jt x = now)
/-- the forest F stands for G, at the time now -/
def Fo (N : Nat) (F : FoS) (G : Nat → Nat → Nat) (now : Nat) : Prop := ∃ up jt mem low nxt trees, frA N F up jt mem low nxt trees now ∧ frI N up jt mem low nxt trees G now
section FR
variable {N : Nat} {F : FoS} {up jt mem low nxt : Nat → Nat} {trees : Nat} {G : Nat → Nat → Nat} {now : Nat}
theorem frI_rec (h : frI N up jt mem low nxt trees G now) (P : Nat → Prop) (hs : ∀ x, x < N → (up x ≠ x → P (up x)) → P x) : ∀ x, x < N → P x := by
  have key : ∀ n x, x < N → N - mem x < n → P x := by
    intro n
    induction n with
    | zero => intro x _ h; omega
    | succ n ih =>
      intro x hx hn
      refine hs x hx (fun hu => ih (up x) (h.1 x hx) ?_)
      have h1 := h.2.2.1 x hx hu
      have h2 := (h.2.2.2.1 (up x) (h.1 x hx)).2
      omega
  exact fun x hx => key (N - mem x + 1) x hx (by omega)
theorem frI_jt (h : frI N up jt mem low nxt trees G now) {x : Nat} (hx : x < N) : jt x ≤ 1000000 := by
  by_cases e : up x = x
  · rw [(h.2.1 x hx).mp e]; exact Nat.le_refl _
  · have h1 := (h.2.2.1 x hx e).2.2
    have h2 := h.2.2.2.2.1
    omega
theorem frI_self (h : frI N up jt mem low nxt trees G now) {x : Nat} (hx : x < N) (e : up x = x) {τ : Nat} (ht : τ < 1000000) : G τ x = x := h.2.2.2.2.2.2.1 τ x hx (by rw [(h.2.1 x hx).mp e]; exact ht)
theorem frI_up (h : frI N up jt mem low nxt trees G now) {x : Nat} (hx : x < N) : G now (up x) = G now x := by
  by_cases e : up x = x
  · rw [e]
  · exact (h.2.2.2.2.2.1 now x hx (h.2.2.1 x hx e).2.2 h.2.2.2.2.1).symm
theorem frI_lt (h : frI N up jt mem low nxt trees G now) {τ : Nat} (ht : τ < 1000000) : ∀ x, x < N → G τ x < N := by
  refine frI_rec h _ (fun x hx ih => ?_)
  by_cases e : τ < jt x
  · rw [h.2.2.2.2.2.2.1 τ x hx e]; exact hx
  · rw [h.2.2.2.2.2.1 τ x hx (by omega) ht]
    exact ih (fun e2 => by have := (h.2.1 x hx).mp e2; omega)
theorem frI_top (h : frI N up jt mem low nxt trees G now) : ∀ x, x < N → up (G now x) = G now x := by
  refine frI_rec h _ (fun x hx ih => ?_)
  by_cases e : up x = x
  · rw [frI_self h hx e h.2.2.2.2.1]; exact e
  · rw [← frI_up h hx]; exact ih e
theorem frI_late (h : frI N up jt mem low nxt trees G now) {τ : Nat} (h1 : now ≤ τ) (ht : τ < 1000000) : ∀ x, x < N → G τ x = G now x := by
  refine frI_rec h _ (fun x hx ih => ?_)
  by_cases e : up x = x
  · rw [frI_self h hx e ht, frI_self h hx e h.2.2.2.2.1]
  · rw [← frI_up h hx, ← ih e]
    exact h.2.2.2.2.2.1 τ x hx (by have := (h.2.2.1 x hx e).2.2; omega) ht
theorem top_ok (hN : N ≤ 250) (hA : frA N F up jt mem low nxt trees now) (hI : frI N up jt mem low nxt trees G now) {t : Nat} (ht : t < N) {post : Int32 → Prop} (hp : post (nI (G now t))) : wp_X1_top F (nI t) post := by
  unfold wp_X1_top
  refine wl2_ind (fun l2 l3 => ∃ x i, l2 = nI x ∧ l3 = nI i ∧ x < N ∧ G now x = G now t ∧ i + 1 ≤ mem x) (fun _ l3 => 250 - l3.toNatClampNeg) ?_ _ _ ⟨t, 0, rfl, rfl, ht, rfl, (hI.2.2.2.1 t ht).1⟩
  rintro kb l2 l3 ⟨x, i, rfl, rfl, hx, hg, hi⟩ hk
  unfold B_X1_top_4
  have hm := (hI.2.2.2.1 x hx).2
  refine pk_le 250 i (fun h => by omega) (fun h => ?_)
  refine ⟨pk_in x 250 (by omega), ?_⟩
  rw [nI_clamp (by omega), hA.1 x hx]
  have hu := hI.1 x hx
  refine pk_eq (up x) x (fun h => ?_) (fun h => ?_)
  · show post (nI x)
    rw [← hg, frI_self hI hx h hI.2.2.2.2.1] at hp
    exact hp
  · intro x4 e
    have h1 := (hI.2.2.1 x hx h).1
    refine hk _ _ ⟨up x, i + 1, e, nI_1 i, hu, by rw [frI_up hI hx, hg], by omega⟩ ?_
    rw [nI_1, nI_clamp (by omega), nI_clamp (by omega)]
    omega
theorem meeting_ok (hN : N ≤ 250) (hA : frA N F up jt mem low nxt trees now) (hI : frI N up jt mem low nxt trees G now) {a b : Nat} (ha : a < N) (hb : b < N) {post : Int32 → Prop} (h1 : ∀ τ, τ < 1000000 → G τ a = G τ b → (∀ σ, σ < τ → G σ a ≠ G σ b) → post (nI τ)) (h2 : (∀ τ, τ < 1000000 → G τ a ≠ G τ b) → post (-1)) : wp_X1_meeting F (nI a) (nI b) post := by
  unfold wp_X1_meeting
  refine wl4_ind (fun l3 l4 l5 l6 => ∃ x y t i, l3 = nI x ∧ l4 = nI y ∧ l5 = nI t ∧ l6 = nI i ∧ x < N ∧ y < N ∧ t < 1000000 ∧ t ≤ jt x ∧ t ≤ jt y ∧ (∀ τ, t ≤ τ → τ < 1000000 → (G τ a = G τ b ↔ G τ x = G τ y)) ∧ (∀ τ, τ < t → G τ a ≠ G τ b) ∧ i + 2 ≤ mem x + mem y) (fun _ _ _ l6 => 500 - l6.toNatClampNeg) ?_ _ _ _ _ ⟨a, b, 0, 0, rfl, rfl, rfl, rfl, ha, hb, by decide, Nat.zero_le _, Nat.zero_le _, fun _ _ _ => Iff.rfl, fun τ h => absurd h (Nat.not_lt_zero _), by have := (hI.2.2.2.1 a ha).1; have := (hI.2.2.2.1 b hb).1; omega⟩
  rintro kb l3 l4 l5 l6 ⟨x, y, t, i, rfl, rfl, rfl, rfl, hx, hy, ht, htx, hty, hiff, hno, hi⟩ hk
  unfold B_X1_meeting_11
  have hmx := (hI.2.2.2.1 x hx).2
  have hmy := (hI.2.2.2.1 y hy).2
  have hjx := frI_jt hI hx
  have hjy := frI_jt hI hy
  refine pk_le 500 i (fun h => by omega) (fun h => ?_)
  refine pk_eq x y (fun h => ?_) (fun hxy => ?_)
  · show post (nI t)
    exact h1 t ht ((hiff t (Nat.le_refl _) ht).mpr (by rw [h])) hno
  refine ⟨pk_in x 250 (by omega), pk_in y 250 (by omega), ?_⟩
  rw [nI_clamp (show x < 2 ^ 31 by omega), nI_clamp (show y < 2 ^ 31 by omega), hA.2.1 x hx, hA.2.1 y hy, hA.1 x hx, hA.1 y hy]
  have go : ∀ (x y : Nat), x < N → y < N → t ≤ jt x → t ≤ jt y → jt x ≤ jt y → x ≠ y → (∀ τ, t ≤ τ → τ < 1000000 → (G τ a = G τ b ↔ G τ x = G τ y)) → i + 2 ≤ mem x + mem y → (nI (jt x) = (1000000 : Int32) → post (-1 : Int32)) ∧ (¬ nI (jt x) = (1000000 : Int32) → ∀ x_7 : Int32, x_7 = nI (jt x) → ∀ x_8 : Int32, x_8 = nI (up x) → kb x_8 (nI y) x_7 (nI i + 1)) := by
    intro x y hx hy htx hty hle hxy hiff hi
    have hjx := frI_jt hI hx
    have hjy := frI_jt hI hy
    have hmx := (hI.2.2.2.1 x hx).2
    have hmy := (hI.2.2.2.1 y hy).2
    refine pk_eq (jt x) 1000000 (fun h => ?_) (fun h => ?_)
    · refine h2 (fun τ hτ e => ?_)
      by_cases c : τ < t
      · exact hno τ c e
      · have e2 := (hiff τ (by omega) hτ).mp e
        rw [hI.2.2.2.2.2.2.1 τ x hx (by omega), hI.2.2.2.2.2.2.1 τ y hy (by omega)] at e2
        exact hxy e2
    · intro x7 e7 x8 e8
      have hu : up x ≠ x := fun e => h ((hI.2.1 x hx).mp e)
      have h3 := hI.2.2.1 x hx hu
      refine hk _ _ _ _ ⟨up x, y, jt x, i + 1, e8, rfl, e7, nI_1 i, hI.1 x hx, hy, by omega, h3.2.1, hle, fun τ h4 h5 => ?_, fun τ h4 => ?_, by omega⟩ ?_
      · rw [hiff τ (by omega) h5, hI.2.2.2.2.2.1 τ x hx h4 h5]
      · by_cases c : τ < t
        · exact hno τ c
        · intro e
          have e2 := (hiff τ (by omega) (by omega)).mp e
          rw [hI.2.2.2.2.2.2.1 τ x hx h4, hI.2.2.2.2.2.2.1 τ y hy (by omega)] at e2
          exact hxy e2
      · rw [nI_1, nI_clamp (by omega), nI_clamp (by omega)]
        omega
  refine pk_le (jt x) (jt y) (fun h => ?_) (fun h => ?_)
  · exact go x y hx hy htx hty h hxy hiff hi
  · exact go y x hy hx hty htx (by omega) (Ne.symm hxy) (fun τ h4 h5 => (hiff τ h4 h5).trans eq_comm) (by omega)
end FR

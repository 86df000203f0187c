/-! PURE: numbers, counting, relations -/
def oI : Option Nat → Int32
  | none => -1
  | some k => nI k
theorem nI_ne1 {k : Nat} (h : k < 2 ^ 31) : ¬ nI k = -1 := by
  intro h2
  have h3 := congrArg Int32.toInt h2
  rw [nI_toInt h, show ((-1 : Int32)).toInt = -1 by decide] at h3
  omega
theorem oI_none_iff {x : Option Nat} (h : ∀ k, x = some k → k < 2 ^ 31) : oI x = -1 ↔ x = none := by
  cases x with
  | none => simp [oI]
  | some k => simp only [oI]; exact ⟨fun e => absurd e (nI_ne1 (h k rfl)), fun e => by cases e⟩
/-- a branch on 'is there none' -/
theorem oI_br {x : Option Nat} {y : Int32} {A B : Prop} (hy : y = oI x) (h : ∀ k, x = some k → k < 2 ^ 31) (hn : x = none → A) (hs : ∀ k, x = some k → B) : (y = (-1 : Int32) → A) ∧ (¬ y = (-1 : Int32) → B) := by
  subst hy
  rw [oI_none_iff h]
  refine ⟨hn, fun e => ?_⟩
  cases x with
  | none => exact absurd rfl e
  | some k => exact hs k rfl
theorem nI_inj {a b : Nat} (ha : a < 2 ^ 31) (hb : b < 2 ^ 31) (h : nI a = nI b) : a = b := (nI_eq ha hb).mp h
def cnt (p : Nat → Bool) : Nat → Nat
  | 0 => 0
  | n + 1 => cnt p n + (if p n then 1 else 0)
theorem cnt_le (p : Nat → Bool) : ∀ n, cnt p n ≤ n
  | 0 => Nat.le_refl 0
  | n + 1 => by
    have := cnt_le p n
    simp only [cnt]
    split <;> omega
theorem cnt_congr {p q : Nat → Bool} : ∀ {n : Nat}, (∀ k, k < n → p k = q k) → cnt p n = cnt q n
  | 0, _ => rfl
  | n + 1, h => by
    simp only [cnt]
    rw [cnt_congr (n := n) (fun k hk => h k (by omega)), h n (by omega)]
theorem cnt_or {p q r : Nat → Bool} : ∀ {n : Nat}, (∀ k, k < n → r k = (p k || q k)) → (∀ k, k < n → ¬ (p k = true ∧ q k = true)) → cnt r n = cnt p n + cnt q n
  | 0, _, _ => rfl
  | n + 1, h, hd => by
    simp only [cnt]
    rw [cnt_or (n := n) (fun k hk => h k (by omega)) (fun k hk => hd k (by omega)), h n (by omega)]
    have hd := hd n (by omega)
    cases hp : p n <;> cases hq : q n <;> simp_all <;> omega
theorem cnt_sub1 {p q : Nat → Bool} {z : Nat} (hp : p z = true) (hq : q z = false) : ∀ {n : Nat}, z < n → (∀ k, k < n → k ≠ z → p k = q k) → cnt p n = cnt q n + 1
  | 0, h, _ => by omega
  | n + 1, hz, h => by
    simp only [cnt]
    by_cases e : n = z
    · subst e
      rw [cnt_congr (n := n) (q := q) (fun k hk => h k (by omega) (by omega)), hp, hq]
      simp
    · rw [cnt_sub1 hp hq (n := n) (by omega) (fun k hk => h k (by omega)), h n (by omega) e]
      omega
theorem cnt_pos {p : Nat → Bool} {z : Nat} (hp : p z = true) : ∀ {n : Nat}, z < n → 1 ≤ cnt p n
  | 0, h => by omega
  | n + 1, hz => by
    simp only [cnt]
    by_cases e : n = z
    · subst e; rw [hp]; simp
    · have := cnt_pos hp (n := n) (by omega)
      omega
theorem cnt_all {p : Nat → Bool} : ∀ {n : Nat}, (∀ k, k < n → p k = true) → cnt p n = n
  | 0, _ => rfl
  | n + 1, h => by
    simp only [cnt]
    rw [cnt_all (n := n) (fun k hk => h k (by omega)), h n (by omega)]
    simp
theorem cnt_none {p : Nat → Bool} : ∀ {n : Nat}, (∀ k, k < n → p k = false) → cnt p n = 0
  | 0, _ => rfl
  | n + 1, h => by
    simp only [cnt]
    rw [cnt_none (n := n) (fun k hk => h k (by omega)), h n (by omega)]
    simp
abbrev Rel : Type := Nat → Nat → Prop
def eqv (R : Rel) : Prop := (∀ a, R a a) ∧ (∀ a b, R a b → R b a) ∧ (∀ a b c, R a b → R b c → R a c)
/-- two applications whose parts are in R -/
def cg (N : Nat) (tm : Nat → Option (Nat × Nat)) (R : Rel) (t u : Nat) : Prop := ∃ a b c d, t < N ∧ u < N ∧ tm t = some (a, b) ∧ tm u = some (c, d) ∧ R a c ∧ R b d
def cgr (N : Nat) (tm : Nat → Option (Nat × Nat)) (R : Rel) : Prop := ∀ t u, cg N tm R t u → R t u
def Cl (S : Rel) (x y : Nat) : Prop := ∀ R : Rel, eqv R → (∀ a b, S a b → R a b) → R x y
def Gv (N : Nat) (tm : Nat → Option (Nat × Nat)) (S : Rel) (x y : Nat) : Prop := ∀ R : Rel, eqv R → (∀ a b, S a b → R a b) → cgr N tm R → R x y
def Rd (N : Nat) (tm : Nat → Option (Nat × Nat)) (S : Rel) : Nat → Rel
  | 0 => Cl S
  | r + 1 => Cl (fun x y => S x y ∨ cg N tm (Rd N tm S r) x y)
theorem Cl_eqv (S : Rel) : eqv (Cl S) := ⟨fun _ _ hE _ => hE.1 _, fun _ _ h R hE hS => hE.2.1 _ _ (h R hE hS), fun _ _ _ h1 h2 R hE hS => hE.2.2 _ _ _ (h1 R hE hS) (h2 R hE hS)⟩
theorem Cl_sub {S : Rel} {a b : Nat} (h : S a b) : Cl S a b := fun _ _ hS => hS _ _ h
theorem Cl_mono {S S' : Rel} (h : ∀ a b, S a b → Cl S' a b) {x y : Nat} (hx : Cl S x y) : Cl S' x y := hx _ (Cl_eqv S') h
theorem Gv_eqv (N : Nat) (tm : Nat → Option (Nat × Nat)) (S : Rel) : eqv (Gv N tm S) := ⟨fun _ _ hE _ _ => hE.1 _, fun _ _ h R hE hS hC => hE.2.1 _ _ (h R hE hS hC), fun _ _ _ h1 h2 R hE hS hC => hE.2.2 _ _ _ (h1 R hE hS hC) (h2 R hE hS hC)⟩
theorem Gv_sub {N : Nat} {tm : Nat → Option (Nat × Nat)} {S : Rel} {a b : Nat} (h : S a b) : Gv N tm S a b := fun _ _ hS _ => hS _ _ h
theorem Gv_cgr (N : Nat) (tm : Nat → Option (Nat × Nat)) (S : Rel) : cgr N tm (Gv N tm S) := fun t u ⟨a, b, c, d, h1, h2, h3, h4, h5, h6⟩ R hE hS hC => hC t u ⟨a, b, c, d, h1, h2, h3, h4, h5 R hE hS hC, h6 R hE hS hC⟩
theorem Gv_mono {N : Nat} {tm : Nat → Option (Nat × Nat)} {S S' : Rel} (h : ∀ a b, S a b → Gv N tm S' a b) {x y : Nat} (hx : Gv N tm S x y) : Gv N tm S' x y := hx _ (Gv_eqv N tm S') h (Gv_cgr N tm S')
theorem cg_mono {N : Nat} {tm : Nat → Option (Nat × Nat)} {R R' : Rel} (h : ∀ a b, R a b → R' a b) {t u : Nat} (hc : cg N tm R t u) : cg N tm R' t u := by
  obtain ⟨a, b, c, d, h1, h2, h3, h4, h5, h6⟩ := hc
  exact ⟨a, b, c, d, h1, h2, h3, h4, h _ _ h5, h _ _ h6⟩
theorem cg_symm {N : Nat} {tm : Nat → Option (Nat × Nat)} {R : Rel} (hR : ∀ a b, R a b → R b a) {t u : Nat} (hc : cg N tm R t u) : cg N tm R u t := by
  obtain ⟨a, b, c, d, h1, h2, h3, h4, h5, h6⟩ := hc
  exact ⟨c, d, a, b, h2, h1, h4, h3, hR _ _ h5, hR _ _ h6⟩
theorem Rd_eqv (N : Nat) (tm : Nat → Option (Nat × Nat)) (S : Rel) : ∀ r, eqv (Rd N tm S r)
  | 0 => Cl_eqv _
  | _ + 1 => Cl_eqv _
theorem Rd_base {N : Nat} {tm : Nat → Option (Nat × Nat)} {S : Rel} {a b : Nat} (h : S a b) : ∀ r, Rd N tm S r a b
  | 0 => Cl_sub h
  | _ + 1 => Cl_sub (Or.inl h)
theorem Rd_succ {N : Nat} {tm : Nat → Option (Nat × Nat)} {S : Rel} : ∀ r {a b : Nat}, Rd N tm S r a b → Rd N tm S (r + 1) a b
  | 0, _, _, h => Cl_mono (fun _ _ hs => Cl_sub (Or.inl hs)) h
  | r + 1, _, _, h => Cl_mono (fun _ _ hs => Cl_sub (hs.elim Or.inl (fun hc => Or.inr (cg_mono (fun _ _ => Rd_succ r) hc)))) h
theorem Rd_le {N : Nat} {tm : Nat → Option (Nat × Nat)} {S : Rel} {r k : Nat} (hk : r ≤ k) {a b : Nat} (h : Rd N tm S r a b) : Rd N tm S k a b := by
  induction hk with
  | refl => exact h
  | step _ ih => exact Rd_succ _ ih
theorem Rd_Gv {N : Nat} {tm : Nat → Option (Nat × Nat)} {S : Rel} : ∀ r {a b : Nat}, Rd N tm S r a b → Gv N tm S a b
  | 0, _, _, h => h _ (Gv_eqv N tm S) (fun _ _ hs => Gv_sub hs)
  | r + 1, _, _, h => h _ (Gv_eqv N tm S) (fun x y hs => hs.elim Gv_sub (fun hc => Gv_cgr N tm S x y (cg_mono (fun _ _ => Rd_Gv r) hc)))
/-- where a round brings nothing new, all is there -/
theorem Rd_full {N : Nat} {tm : Nat → Option (Nat × Nat)} {S : Rel} {r : Nat} (h : ∀ x y, cg N tm (Rd N tm S r) x y → Rd N tm S r x y) {a b : Nat} (hg : Gv N tm S a b) : Rd N tm S r a b := hg _ (Rd_eqv N tm S r) (fun _ _ hs => Rd_base hs r) h

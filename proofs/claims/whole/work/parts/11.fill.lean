/-- Arrays.fill(int[], int): every place holds v -/
theorem fl_cell (cA : ClassId) (n : Nat) (f g : Nat → Int32) (h : ∀ j, j < n → f j = g j) : vp_cell cA (n, .inl f) = vp_cell cA (n, .inl g) := by
  rw [vp_cell_i, vp_cell_i]
  unfold arrV
  congr 2
  funext j
  show Value.int (f j.val) = Value.int (g j.val)
  rw [h j.val j.isLt]
theorem fl_P {D : va_G} {cl : List vw_C} {a : Nat} {cA : ClassId} {n : Nat} {f g : Nat → Int32} {H : Heap} (h : ∀ j, j < n → f j = g j) (hP : va_P D cl [(a, .inl (cA, n, .inl f))] H) : va_P D cl [(a, .inl (cA, n, .inl g))] H := by
  intro k q hk
  have h0 := hP 0 _ rfl
  cases k with
  | zero =>
    cases hk
    show H[a]? = some (vp_cell cA (n, .inl g))
    rw [← fl_cell cA n f g h]
    exact h0
  | succ k => simp at hk
theorem fl_D {A : Nat → Prop} {a : Nat} {cA : ClassId} {n : Nat} {f g : Nat → Int32} (hD : va_D A [(a, .inl (cA, n, .inl f))]) : va_D A [(a, .inl (cA, n, .inl g))] := hD.set (p := 0) (e0 := .inl (cA, n, .inl f)) rfl
set_option maxHeartbeats 4000000 in
set_option maxRecDepth 100000 in
theorem c_fill (l : Launch) (dC : Nat → ClassId) (dI : Nat → Nat → Nat) (cI cZ : ClassId) (sz : Nat) (a n : Nat) (hn : n < 2 ^ 31) (f : Nat → Int32) (v : Int32) : Met l yJ7_fill_53178 wsJ7_fill_53178 ({ frames := 0, cells := 0, slots := 0, locals := 0 }) (va_Pc [.ref a, .int v] (fun U => U.heap.size = sz ∧ va_P (dC, dI) vwCl [(a, .inl (cI, n, .inl f))] U.heap ∧ va_K (dC, dI) vwCl [(cI, .int), (cZ, .boolean)] U ∧ va_D (fun _ => True) [(a, .inl (cI, n, .inl f))])) (va_Qv (fun (u : Unit) => True) (fun (u : Unit) (t : State) => va_P (dC, dI) vwCl [(a, .inl (cI, n, .inl (fun _ => v)))] t.heap ∧ va_K (dC, dI) vwCl [(cI, .int), (cZ, .boolean)] t ∧ va_D (va_A [(a, .inl (cI, n, .inl f))] sz) [(a, .inl (cI, n, .inl (fun _ => v)))]) (va_A [(a, .inl (cI, n, .inl f))] sz)) 0 0 (va_A [(a, .inl (cI, n, .inl f))] sz) := by
  refine Met.ofW (cc := cJ7_fill_53178) (maxL := 4) (ret := none) (by decide) rfl ?_
  intro p e s m args below meth c s₁ B hml hv
  obtain ⟨rfl, hsz, hP, hK, hD0⟩ := hv
  have hx := B.exec
  have hb := B.bytes
  have hr := B.returns
  have hlocks := B.notSynchronized
  subst hsz
  have hD := hD0.self (sz := s.heap.size)
  generalize hAe : va_A [(a, .inl (cI, n, .inl f))] s.heap.size = A at hD ⊢
  have hS : va_S A s.heap s.heap [] := va_S.rf
  have hP : va_P (dC, dI) vwCl [(a, .inl (cI, n, .inl f))] s.heap := hP
  have hl := lv_entry ([.ref a, .int v]) (n := 4) (Nat.le_of_ble_eq_true rfl)
  rw [lg_entry_eq]
  generalize (lg_sl ([.ref a, .int v]) ++ List.replicate (4 - (lg_sl ([.ref a, .int v])).length) Slot.unset).toArray = ls at hl ⊢
  have hl : lv_has ls 4 [(0, .ref a), (1, .int v)] := hl
  refine w_goal (fun G gI gE => gI _ _ _ ?_)
  have hL : ∀ (k i : Nat) (g : Nat → Int32) (H : Heap) (locs : List Loc) (ls : Array Slot), i + k = n → (∀ j, j < i → g j = v) → va_P (dC, dI) vwCl [(a, .inl (cI, n, .inl g))] H → va_D A [(a, .inl (cI, n, .inl g))] → va_S A s.heap H locs → lv_has ls 4 [(3, .int (nI n)), (2, .int (nI i)), (0, .ref a), (1, .int v)] → G H locs (F0 m 5 ls []) := by
    intro k
    induction k with
    | zero =>
      intro i g H locs ls hi hg hP hD hS hl
      refine gI _ _ _ ?_
      refine lv_iload_n hx hb dJ7_fill_53178_5 rfl (lv_at hl 1 rfl) ?_
      refine lv_iload_n hx hb dJ7_fill_53178_6 rfl (lv_at hl 0 rfl) ?_
      refine lv_icmp_ge (tgt := 20) hx hb dJ7_fill_53178_7 (by decide) (fun c_1 => ?_) (fun c_1 => ?_)
      · have hP9 := fl_P (g := fun _ => v) (fun j hj => hg j (by omega)) hP
        have hD9 := fl_D (g := fun _ => v) hD
        exact W.vret hx hb hr (fun t ht hW => ⟨⟨(), rfl, trivial, by rw [ht]; exact hP9, va_K.moved hW.alike hK, hD9⟩, hS.F ht⟩) hS.2.2 dJ7_fill_53178_20
      · exact absurd (nI_le (by omega) (by omega)) c_1
    | succ k ih =>
      intro i g H locs ls hi hg hP hD hS hl
      refine gI _ _ _ ?_
      refine lv_iload_n hx hb dJ7_fill_53178_5 rfl (lv_at hl 1 rfl) ?_
      refine lv_iload_n hx hb dJ7_fill_53178_6 rfl (lv_at hl 0 rfl) ?_
      refine lv_icmp_ge (tgt := 20) hx hb dJ7_fill_53178_7 (by decide) (fun c_1 => ?_) (fun c_1 => ?_)
      · exact absurd c_1 (nI_ge (by omega) (by omega))
      · refine lv_aload_n hx hb dJ7_fill_53178_10 rfl (lv_at hl 2 rfl) ?_
        refine lv_iload_n hx hb dJ7_fill_53178_11 rfl (lv_at hl 1 rfl) ?_
        refine lv_iload_n hx hb dJ7_fill_53178_12 rfl (lv_at hl 3 rfl) ?_
        refine va_iast hx hb hK hP hD hS 0 0 rfl rfl (vp_in_nI (by omega) (by omega)) dJ7_fill_53178_13 (fun H locs hP hD hS => ?_)
        have hP : va_P (dC, dI) vwCl [(a, .inl (cI, n, .inl (upd g (nI i).toNatClampNeg v)))] H := hP
        have hD : va_D A [(a, .inl (cI, n, .inl (upd g (nI i).toNatClampNeg v)))] := hD
        rw [nI_clamp (by omega)] at hP hD
        refine lv_iinc (v := nI (i + 1)) (lv' := [(2, .int (nI (i + 1))), (3, .int (nI n)), (0, .ref a), (1, .int v)]) hx hb dJ7_fill_53178_14 hl (k := 1) rfl (by rw [← nI_1]; rfl) (by decide) rfl (fun ls hl => ?_)
        refine lv_goto (tgt := 5) hx hb dJ7_fill_53178_17 (by decide) ?_
        refine gE _ _ _ (ih (i + 1) (upd g i v) H locs ls (by omega) ?_ hP hD hS (lv_sub hl [1, 0, 2, 3] rfl))
        intro j hj
        by_cases h : j = i
        · rw [h]; exact pk_us
        · rw [pk_un h]; exact hg j (by omega)
  refine lv_iconst (v := 0) hx hb dJ7_fill_53178_0 (by decide) ?_
  refine lv_istore_n (lv' := [(2, .int 0), (0, .ref a), (1, .int v)]) hx hb dJ7_fill_53178_1 rfl hl (by decide) rfl (fun ls hl => ?_)
  refine lv_aload_n hx hb dJ7_fill_53178_2 rfl (lv_at hl 1 rfl) ?_
  refine va_alen hx hb hK hP 0 0 rfl rfl (v := nI n) rfl dJ7_fill_53178_3 ?_
  refine lv_istore_n (lv' := [(3, .int (nI n)), (2, .int 0), (0, .ref a), (1, .int v)]) hx hb dJ7_fill_53178_4 rfl hl (by decide) rfl (fun ls hl => ?_)
  exact gE _ _ _ (hL n 0 f _ _ ls (by omega) (fun j hj => absurd hj (by omega)) hP hD hS (lv_sub hl [0, 1, 2, 3] rfl))

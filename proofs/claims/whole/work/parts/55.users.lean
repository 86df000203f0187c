/-! PURE: loosenUsers -/
def lsI (N : Nat) (tm : Nat → Option (Nat × Nat)) (tp : Nat → Nat) (s : Nat) (C0 : ClS) (n0 : Nat) (lo0 : Nat → Nat) (V : Nat → Prop) (C : ClS) (n : Nat) (lo : Nat → Nat) : Prop :=
  (cl_expected C = cl_expected C0 ∧ cl_one C = cl_one C0 ∧ cl_other C = cl_other C0 ∧ cl_bucket C = cl_bucket C0 ∧ cl_nextInBucket C = cl_nextInBucket C0 ∧ cl_sign C = cl_sign C0) ∧
  loA C n lo ∧ (∀ i j, i < n → j < n → lo i = lo j → i = j) ∧ (∀ i, i < n → ¬ Stn C (lo i)) ∧ n + cnt (fun k => decide (¬ cl_stands C k = 0)) N ≤ N ∧
  (∀ u, Stn C u → Stn C0 u) ∧
  (∀ u, Stn C0 u → ¬ Stn C u → ∃ a b, u < N ∧ tm u = some (a, b) ∧ (tp a = s ∨ tp b = s)) ∧
  (∀ x, (∃ i, i < n ∧ lo i = x) ↔ (∃ i, i < n0 ∧ lo0 i = x) ∨ (Stn C0 x ∧ ¬ Stn C x)) ∧
  (∀ u a b, u < N → tm u = some (a, b) → V a ∨ V b → ¬ Stn C u)
section LU
variable {N : Nat} {tm : Nat → Option (Nat × Nat)} {T : TeS} {C0 : ClS} {F : FoS} {up jt mem low nxt : Nat → Nat} {trees : Nat} {G : Nat → Nat → Nat} {now : Nat} {n0 : Nat} {lo0 : Nat → Nat} {tp : Nat → Nat} {s : Nat}
/-- one user that stands is loosened -/
theorem ls_step (hN : N ≤ 250) {V : Nat → Prop} {C : ClS} {n : Nat} {lo : Nat → Nat} (h : lsI N tm tp s C0 n0 lo0 V C n lo) {u a b : Nat} (hu : u < N) (hut : tm u = some (a, b)) (hus : tp a = s ∨ tp b = s) (hS : Stn C u) :
    n < 250 ∧ lsI N tm tp s C0 n0 lo0 V (cl_s_looseTotal (cl_s_loose (cl_s_stands C (upd (cl_stands C) u (0 : Int32))) (upd (cl_loose C) n (nI u))) (nI (n + 1))) (n + 1) (fun i => if i = n then u else lo i) ∧ ∀ w, Stn (cl_s_looseTotal (cl_s_loose (cl_s_stands C (upd (cl_stands C) u (0 : Int32))) (upd (cl_loose C) n (nI u))) (nI (n + 1))) w ↔ Stn C w ∧ w ≠ u := by
  obtain ⟨h0, h1, h2, h3, h4, h5, h6, h7, h8⟩ := h
  have hc1 : cnt (fun k => decide (¬ cl_stands C k = 0)) N = cnt (fun k => decide (¬ upd (cl_stands C) u (0 : Int32) k = 0)) N + 1 := by
    refine cnt_sub1 (z := u) ?_ ?_ hu (fun k hk hku => ?_)
    · exact decide_eq_true hS
    · rw [pk_us]; simp
    · rw [pk_un hku]
  have hn : n < 250 := by omega
  have hst : ∀ w, Stn (cl_s_looseTotal (cl_s_loose (cl_s_stands C (upd (cl_stands C) u (0 : Int32))) (upd (cl_loose C) n (nI u))) (nI (n + 1))) w ↔ Stn C w ∧ w ≠ u := by
    intro w
    show ¬ upd (cl_stands C) u (0 : Int32) w = 0 ↔ _
    by_cases c : w = u
    · subst c; rw [pk_us]; simp
    · rw [pk_un c]; simp [c, Stn]
  refine ⟨hn, ⟨h0, ⟨rfl, by omega, fun i hi => ?_⟩, fun i j hi hj => ?_, fun i hi => ?_, ?_, fun w hw => h5 w ((hst w).mp hw).1, fun w hw hnw => ?_, fun x => ?_, fun w c d hw hwt hV hs => h8 w c d hw hwt hV ((hst w).mp hs).1⟩, hst⟩
  · show upd (cl_loose C) n (nI u) i = nI (if i = n then u else lo i)
    by_cases c : i = n
    · subst c; rw [pk_us, if_pos rfl]
    · rw [pk_un c, if_neg c]; exact h1.2.2 i (by omega)
  · show (if i = n then u else lo i) = (if j = n then u else lo j) → i = j
    by_cases c : i = n
    · by_cases c2 : j = n
      · intro _; omega
      · rw [if_pos c, if_neg c2]
        intro e
        exact absurd (by rw [e] at hS; exact hS) (h3 j (by omega))
    · by_cases c2 : j = n
      · rw [if_neg c, if_pos c2]
        intro e
        exact absurd (by rw [← e] at hS; exact hS) (h3 i (by omega))
      · rw [if_neg c, if_neg c2]
        exact h2 i j (by omega) (by omega)
  · intro hs
    have hs := (hst _).mp hs
    show False
    by_cases c : i = n
    · simp only [if_pos c] at hs; exact hs.2 rfl
    · simp only [if_neg c] at hs; exact h3 i (by omega) hs.1
  · show n + 1 + cnt (fun k => decide (¬ upd (cl_stands C) u (0 : Int32) k = 0)) N ≤ N
    omega
  · by_cases c : Stn C w
    · have e : w = u := by
        by_cases c2 : w = u
        · exact c2
        · exact absurd ((hst w).mpr ⟨c, c2⟩) hnw
      subst e
      exact ⟨a, b, hu, hut, hus⟩
    · exact h6 w hw c
  · constructor
    · rintro ⟨i, hi, e⟩
      by_cases c : i = n
      · simp only [if_pos c] at e
        subst e
        exact Or.inr ⟨h5 _ hS, fun q => ((hst _).mp q).2 rfl⟩
      · simp only [if_neg c] at e
        rcases (h7 x).mp ⟨i, by omega, e⟩ with q | q
        · exact Or.inl q
        · exact Or.inr ⟨q.1, fun z => q.2 ((hst x).mp z).1⟩
    · rintro (q | q)
      · obtain ⟨i, hi, e⟩ := (h7 x).mpr (Or.inl q)
        exact ⟨i, by omega, (if_neg (by omega)).trans e⟩
      · by_cases c : x = u
        · exact ⟨n, by omega, (if_pos rfl).trans c.symm⟩
        · obtain ⟨i, hi, e⟩ := (h7 x).mpr (Or.inr ⟨q.1, fun z => q.2 ((hst x).mpr ⟨z, c⟩)⟩)
          exact ⟨i, by omega, (if_neg (by omega)).trans e⟩
theorem pt_cases {h p : Nat} (hp : pt tm h = some p) : ∃ a b, tm (h / 2) = some (a, b) ∧ (p = a ∨ p = b) := by
  unfold pt at hp
  cases e : tm (h / 2) with
  | none => rw [e] at hp; cases hp
  | some q =>
    rw [e] at hp
    refine ⟨q.1, q.2, rfl, ?_⟩
    have hp := Option.some.inj hp
    by_cases c : h % 2 = 0
    · simp only [if_pos c] at hp; exact Or.inl hp.symm
    · simp only [if_neg c] at hp; exact Or.inr hp.symm
theorem pt_fst {u a b : Nat} (h : tm u = some (a, b)) : pt tm (2 * u) = some a := by
  unfold pt
  rw [show 2 * u / 2 = u by omega, h]
  simp
theorem pt_snd {u a b : Nat} (h : tm u = some (a, b)) : pt tm (2 * u + 1) = some b := by
  unfold pt
  rw [show (2 * u + 1) / 2 = u by omega, h]
  simp
/-- all users of one member -/
theorem ls_inner (hT : teA N tm T) {p : Nat} (hp : p < N) (hps : tp p = s) {V : Nat → Prop} {C : ClS} {n : Nat} {lo : Nat → Nat} (h : lsI N tm tp s C0 n0 lo0 V C n lo) {kb : Int32 → Int32 → ClS → Prop} {l4 l5 : Int32}
    (hk : ∀ C' n' lo', lsI N tm tp s C0 n0 lo0 (fun q => V q ∨ q = p) C' n' lo' → ∀ l6 l7, K_X0_loosenUsers_29_115 F l4 l5 kb l6 l7 C') {x4 : Int32} (e4 : x4 = te_lastUse T p) : ∃ n : Nat, wl3 (B_X0_loosenUsers_29 T (K_X0_loosenUsers_29_115 F l4 l5 kb)) n x4 (0 : Int32) C := by
  have hN : N ≤ 250 := hT.2.1
  obtain ⟨o, ho1, ho2⟩ := hT.2.2.2.2.2.2.1 p hp
  refine wl3_ind (fun l6 l7 C => ∃ n lo bnd o j, lsI N tm tp s C0 n0 lo0 V C n lo ∧ l6 = oI o ∧ l7 = nI j ∧ j ≤ 500 ∧ isgu tm p bnd o ∧ bnd ≤ 2 * N ∧ (∀ u, o = some u → u + j < 500) ∧ (∀ h, bnd ≤ h → h < 2 * N → pt tm h = some p → ¬ Stn C (h / 2))) (fun _ l7 _ => 501 - l7.toNatClampNeg) ?_ _ _ _ ⟨n, lo, 2 * N, o, 0, h, by rw [e4, ho1], rfl, by omega, ho2, Nat.le_refl _, fun u hu => by have := (ho2.1 u hu).1; omega, fun h h1 h2 => by omega⟩
  rintro kb2 l6 l7 C ⟨n, lo, bnd, o, j, hls, rfl, rfl, hj, hg, hbn, hoj, hdone⟩ hk2
  unfold B_X0_loosenUsers_29
  have fin : o = none → K_X0_loosenUsers_29_115 F l4 l5 kb (oI o) (nI j) C := by
    intro e
    refine hk C n lo ⟨hls.1, hls.2.1, hls.2.2.1, hls.2.2.2.1, hls.2.2.2.2.1, hls.2.2.2.2.2.1, hls.2.2.2.2.2.2.1, hls.2.2.2.2.2.2.2.1, ?_⟩ _ _
    have hno : ∀ h, h < 2 * N → pt tm h = some p → ¬ Stn C (h / 2) := by
      intro h hh hpt
      by_cases c : bnd ≤ h
      · exact hdone h c hh hpt
      · obtain ⟨u, hu, -⟩ := hg.2 h (by omega) hpt
        rw [e] at hu; cases hu
    intro u a b hu hut hV
    rcases hV with (hV | hV) | (hV | hV)
    · exact hls.2.2.2.2.2.2.2.2 u a b hu hut (Or.inl hV)
    · subst hV
      have := hno (2 * u) (by omega) (pt_fst hut)
      rw [show 2 * u / 2 = u by omega] at this
      exact this
    · exact hls.2.2.2.2.2.2.2.2 u a b hu hut (Or.inr hV)
    · subst hV
      have := hno (2 * u + 1) (by omega) (pt_snd hut)
      rw [show (2 * u + 1) / 2 = u by omega] at this
      exact this
  cases o with
  | none => exact pk_le 500 j (fun _ => fin rfl) (fun _ => ⟨fun _ => fin rfl, fun hh => absurd rfl hh⟩)
  | some u =>
    have hu := hg.1 u rfl
    have huj := hoj u rfl
    obtain ⟨a, b, hut, hpab⟩ := pt_cases hu.2
    have hu2 : u / 2 < N := by omega
    have husb : tp a = s ∨ tp b = s := by
      rcases hpab with q | q
      · left; rw [← q]; exact hps
      · right; rw [← q]; exact hps
    obtain ⟨o', ho'1, ho'2⟩ := hT.2.2.2.2.2.2.2 u p (by omega) hu.2
    refine pk_le 500 j (fun h => by omega) (fun _ => ?_)
    refine ⟨fun h => absurd h (nI_ne1 (show u < 2 ^ 31 by omega)), fun _ => ?_⟩
    intro x9 e9
    have e9 : x9 = nI (u / 2) := by rw [e9]; exact pk_div (d := 2) (by omega) (by decide) (by decide)
    subst e9
    refine ⟨pk_in (u / 2) 250 (by omega), ?_⟩
    have hcu : (nI (u / 2)).toNatClampNeg = u / 2 := nI_clamp (by omega)
    have hcu1 : (oI (some u)).toNatClampNeg = u := nI_clamp (by omega)
    rw [hcu, hcu1]
    have hmeas : 501 - (nI j + 1).toNatClampNeg < 501 - (nI j).toNatClampNeg := by
      rw [nI_1, nI_clamp (by omega), nI_clamp (by omega)]
      omega
    have hnext : ∀ w, o' = some w → w + (j + 1) < 500 := fun w hw => by have := (ho'2.1 w hw).1; omega
    refine ⟨fun hz => ?_, fun hz => ?_⟩
    · refine ⟨pk_in u 500 (by omega), ?_⟩
      intro x13 e13
      refine hk2 _ _ _ ⟨n, lo, u, o', j + 1, hls, by rw [e13, ho'1], nI_1 j, by omega, ho'2, by omega, hnext, fun h h1 h2 hpt => ?_⟩ hmeas
      by_cases c : bnd ≤ h
      · exact hdone h c h2 hpt
      · obtain ⟨w, hw, hle⟩ := hg.2 h (by omega) hpt
        cases hw
        have : h = u := by omega
        subst this
        exact fun q => q hz
    · obtain ⟨hn, hls', hst⟩ := ls_step hN hls hu2 hut husb hz
      have hlt : cl_looseTotal C = nI n := hls.2.1.1
      rw [hlt, nI_clamp (show n < 2 ^ 31 by omega)]
      refine pk_le 250 n (fun h => by omega) (fun _ => ?_)
      refine ⟨pk_in n 250 hn, pk_in u 500 (by omega), ?_⟩
      intro x16 e16
      rw [show nI n + (1 : Int32) = nI (n + 1) from nI_1 n]
      refine hk2 _ _ _ ⟨n + 1, _, u, o', j + 1, hls', by rw [e16, ho'1], nI_1 j, by omega, ho'2, by omega, hnext, fun h h1 h2 hpt => ?_⟩ hmeas
      intro q
      have q := (hst _).mp q
      by_cases c : bnd ≤ h
      · exact hdone h c h2 hpt q.1
      · obtain ⟨w, hw, hle⟩ := hg.2 h (by omega) hpt
        cases hw
        have : h = u := by omega
        subst this
        exact q.2 rfl
theorem loosen_ok (hT : teA N tm T) (hA : frA N F up jt mem low nxt trees now) (hI : frI N up jt mem low nxt trees G now) (hs : s < N) (hus : up s = s) (hlo : loA C0 n0 lo0) (hinj : ∀ i j, i < n0 → j < n0 → lo0 i = lo0 j → i = j) (hns : ∀ i, i < n0 → ¬ Stn C0 (lo0 i)) (hcnt : n0 + cnt (fun k => decide (¬ cl_stands C0 k = 0)) N ≤ N) {post : ClS → Prop}
    (hp : ∀ C n lo, lsI N tm (G now) s C0 n0 lo0 (fun q => q < N ∧ G now q = s) C n lo → post C) : wp_X0_loosenUsers T C0 F (nI s) post := by
  have hN : N ≤ 250 := hT.2.1
  obtain ⟨l, c1, c2, c3, c4, c5⟩ := hI.2.2.2.2.2.2.2.2.2.2.1 s hs hus
  have hms := hI.2.2.2.1 s hs
  have hcs : (nI s).toNatClampNeg = s := nI_clamp (by omega)
  unfold wp_X0_loosenUsers
  refine wl3_ind (fun l4 l5 C => ∃ pre suf p n lo, l4 = nI p ∧ l5 = nI pre.length ∧ pth nxt p suf s ∧ pre ++ suf = s :: l ∧ lsI N tm (G now) s C0 n0 lo0 (fun q => q ∈ pre) C n lo) (fun _ l5 _ => 250 - l5.toNatClampNeg) ?_ _ _ _ ⟨[], s :: l, s, n0, lo0, rfl, rfl, ⟨rfl, c2⟩, rfl, ⟨⟨rfl, rfl, rfl, rfl, rfl, rfl⟩, hlo, hinj, hns, hcnt, fun _ h => h, fun _ h1 h2 => absurd h1 h2, fun x => ⟨fun h => Or.inl h, fun h => h.elim id (fun q => absurd q.1 q.2)⟩, fun u a b _ _ h => (h.elim (fun q => absurd q List.not_mem_nil) (fun q => absurd q List.not_mem_nil))⟩⟩
  rintro kb l4 l5 C ⟨pre, suf, p, n, lo, rfl, rfl, hpt, hsp, hls⟩ hk
  unfold B_X0_loosenUsers_6
  refine ⟨pk_in s 250 (by omega), ?_⟩
  rw [hcs, hA.2.2.1 s hs]
  have hlen : pre.length + suf.length = mem s := by
    have h := congrArg List.length hsp
    rw [List.length_append, List.length_cons] at h
    omega
  refine pk_le (mem s) pre.length (fun h => ?_) (fun h => ?_)
  · have hsuf : suf = [] := List.length_eq_zero_iff.mp (by omega)
    rw [hsuf, List.append_nil] at hsp
    refine hp C n lo ⟨hls.1, hls.2.1, hls.2.2.1, hls.2.2.2.1, hls.2.2.2.2.1, hls.2.2.2.2.2.1, hls.2.2.2.2.2.2.1, hls.2.2.2.2.2.2.2.1, fun u a b hu hut hV => hls.2.2.2.2.2.2.2.2 u a b hu hut ?_⟩
    have hmem : ∀ q, q < N → G now q = s → q ∈ pre := by
      intro q hq e
      rw [hsp]
      rcases c5 q hq e with h | h
      · rw [h]; exact List.mem_cons_self ..
      · exact List.mem_cons_of_mem _ h
    exact hV.elim (fun q => Or.inl (hmem _ q.1 q.2)) (fun q => Or.inr (hmem _ q.1 q.2))
  · cases suf with
    | nil => simp at hlen; omega
    | cons p' suf =>
      obtain ⟨rfl, hpt2⟩ := hpt
      have hpm : p ∈ s :: l := by rw [← hsp]; exact List.mem_append_right _ (List.mem_cons_self ..)
      have hpN : p < N ∧ G now p = s := by
        rcases List.mem_cons.mp hpm with h | h
        · rw [h]; exact ⟨hs, frI_self hI hs hus hI.2.2.2.2.1⟩
        · exact c4 p h
      refine ⟨pk_in p 250 (by omega), ?_⟩
      have hcp : (nI p).toNatClampNeg = p := nI_clamp (by omega)
      rw [hcp]
      intro x4 e4
      refine ls_inner hT hpN.1 hpN.2 hls (fun C' n' lo' hls' l6 l7 => ?_) e4
      unfold K_X0_loosenUsers_29_115
      refine ⟨pk_in p 250 (by omega), ?_⟩
      rw [hcp, hA.2.2.2.2.1 p hpN.1]
      intro x6 e6
      refine hk _ _ _ ⟨pre ++ [p], suf, nxt p, n', lo', e6, by rw [List.length_append]; exact nI_1 _, hpt2, by rw [List.append_assoc]; exact hsp, hls'.1, hls'.2.1, hls'.2.2.1, hls'.2.2.2.1, hls'.2.2.2.2.1, hls'.2.2.2.2.2.1, hls'.2.2.2.2.2.2.1, hls'.2.2.2.2.2.2.2.1, fun u a b hu hut hV => hls'.2.2.2.2.2.2.2.2 u a b hu hut ?_⟩ ?_
      · have hm : ∀ q, q ∈ pre ++ [p] → q ∈ pre ∨ q = p := fun q hq => (List.mem_append.mp hq).imp id (fun z => List.mem_singleton.mp z)
        exact hV.imp (hm _) (hm _)
      · rw [nI_1, nI_clamp (by omega), nI_clamp (by omega)]
        omega
end LU

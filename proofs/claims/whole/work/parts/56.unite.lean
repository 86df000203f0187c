/-! PURE: unite, step, settle -/
/-- all applications -/
def apD (N : Nat) (tm : Nat → Option (Nat × Nat)) : Nat → Prop := fun x => x < N ∧ ∃ a b, tm x = some (a, b)
/-- within a step: pairs from i on are still to be joined, lo holds those that are loose -/
def phA (N : Nat) (tm : Nat → Option (Nat × Nat)) (C : ClS) (F : FoS) (G : Nat → Nat → Nat) (now e : Nat) (p1 p2 : Nat → Nat) (i n : Nat) (lo : Nat → Nat) (trees : Nat) : Prop :=
  ∃ up jt mem low nxt ch sg, frA N F up jt mem low nxt trees now ∧ frI N up jt mem low nxt trees G now ∧ pdA N C e p1 p2 ∧ loA C n lo ∧ (∀ a b, a < n → b < n → lo a = lo b → a = b) ∧ (∀ a, a < n → ¬ Stn C (lo a)) ∧ n + cnt (fun k => decide (¬ cl_stands C k = 0)) N ≤ N ∧
  tbI N tm C ch sg (G now) (fun x => ∃ a, a < n ∧ lo a = x) (Cl (rr N (G now) (Pn p1 p2 i e))) (apD N tm) (fun _ => False)
theorem tbI_R {N : Nat} {tm : Nat → Option (Nat × Nat)} {C : ClS} {ch : Nat → List Nat} {sg : Nat → Nat} {tp : Nat → Nat} {LO D cur : Nat → Prop} {R R' : Rel} (h : tbI N tm C ch sg tp LO R D cur) (hR : ∀ u w, R u w → R' u w) : tbI N tm C ch sg tp LO R' D cur := by
  obtain ⟨h1, h2, h3, h4, h5, h6, h7, h8⟩ := h
  refine ⟨h1, h2, h3, h4, h5, h6, h7, fun x a b hx hxt => ?_⟩
  obtain ⟨y, c, d, q1, q2, q3, q4, q5⟩ := h8 x a b hx hxt
  exact ⟨y, c, d, q1, q2, q3, hR _ _ q4, q5⟩
theorem tbI_LO {N : Nat} {tm : Nat → Option (Nat × Nat)} {C : ClS} {ch : Nat → List Nat} {sg : Nat → Nat} {tp : Nat → Nat} {LO LO' D D' cur : Nat → Prop} {R : Rel} (h : tbI N tm C ch sg tp LO R D cur) (hL : ∀ u, LO u ↔ LO' u) (hD : ∀ u, D u ↔ D' u) : tbI N tm C ch sg tp LO' R D' cur := by
  have e1 : LO = LO' := funext fun u => propext (hL u)
  have e2 : D = D' := funext fun u => propext (hD u)
  rw [← e1, ← e2]
  exact h
/-- other rows of the closure that the table does not look at -/
theorem tbI_C {N : Nat} {tm : Nat → Option (Nat × Nat)} {C C' : ClS} {ch : Nat → List Nat} {sg : Nat → Nat} {tp : Nat → Nat} {LO D cur : Nat → Prop} {R : Rel} (h : tbI N tm C ch sg tp LO R D cur) (f1 : cl_bucket C' = cl_bucket C) (f2 : cl_nextInBucket C' = cl_nextInBucket C) (f3 : cl_sign C' = cl_sign C) (f4 : cl_stands C' = cl_stands C) : tbI N tm C' ch sg tp LO R D cur := by
  have hSe : ∀ z, Stn C' z ↔ Stn C z := fun z => by unfold Stn; rw [f4]
  obtain ⟨h1, h2, h3, h4, h5, h6, h7, h8⟩ := h
  refine ⟨fun b hb => by rw [f1, f2, f3]; exact h1 b hb, h2, h3, fun x a b hx hxt hs => h4 x a b hx hxt ((hSe x).mp hs), fun x hx hs => h5 x hx (fun q => hs ((hSe x).mpr q)), fun x hx => ?_, fun x y hx hy h9 h10 => h7 x y hx hy ((hSe x).mp h9) ((hSe y).mp h10), h8⟩
  have q := h6 x hx
  exact ⟨q.1, fun z => q.2.1 ((hSe x).mp z), q.2.2⟩
section UN
variable {N : Nat} {tm : Nat → Option (Nat × Nat)} {T : TeS} {C : ClS} {F : FoS} {G : Nat → Nat → Nat} {now e : Nat} {p1 p2 : Nat → Nat} {i n : Nat} {lo : Nat → Nat} {trees : Nat}
/-- the relation stays when a pair that is joined already is passed over -/
theorem rr_skip {tp : Nat → Nat} (hi : i < e) (h1 : p1 i < N) (h2 : p2 i < N) (heq : tp (p1 i) = tp (p2 i)) : ∀ u w, Cl (rr N tp (Pn p1 p2 (i + 1) e)) u w ↔ Cl (rr N tp (Pn p1 p2 i e)) u w := by
  intro u w
  constructor
  · refine fun h => Cl_mono (fun a b hab => Cl_sub ?_) h
    rcases hab with q | ⟨j, j1, j2, j3, j4⟩
    · exact Or.inl q
    · exact Or.inr ⟨j, by omega, j2, j3, j4⟩
  · refine fun h => Cl_mono (fun a b hab => Cl_sub ?_) h
    rcases hab with q | ⟨j, j1, j2, j3, j4⟩
    · exact Or.inl q
    · by_cases c : j = i
      · subst c; exact Or.inl ⟨by rw [j3]; exact h1, by rw [j4]; exact h2, by rw [j3, j4]; exact heq⟩
      · exact Or.inr ⟨j, by omega, j2, j3, j4⟩
theorem rr_join {tp tp' : Nat → Nat} {s g : Nat} (hs : s < N) (hg : g < N) (hts : tp s = s) (htg : tp g = g) (hlt : ∀ q, q < N → tp q < N) (hid : ∀ q, q < N → tp (tp q) = tp q) (htp : ∀ q, q < N → tp' q = if tp q = s then g else tp q) (hi : i < e) (h1 : p1 i < N) (h2 : p2 i < N) (hp : (tp (p1 i) = s ∧ tp (p2 i) = g) ∨ (tp (p1 i) = g ∧ tp (p2 i) = s)) : ∀ u w, Cl (rr N tp' (Pn p1 p2 (i + 1) e)) u w ↔ Cl (rr N tp (Pn p1 p2 i e)) u w := by
  have hE := Cl_eqv (rr N tp (Pn p1 p2 i e))
  have hsg : Cl (rr N tp (Pn p1 p2 i e)) s g := by
    have hpair : Cl (rr N tp (Pn p1 p2 i e)) (p1 i) (p2 i) := Cl_sub (Or.inr ⟨i, Nat.le_refl _, hi, rfl, rfl⟩)
    rcases hp with q | q
    · have r1 : Cl (rr N tp (Pn p1 p2 i e)) s (p1 i) := Cl_sub (Or.inl ⟨hs, h1, by rw [hts, q.1]⟩)
      have r2 : Cl (rr N tp (Pn p1 p2 i e)) (p2 i) g := Cl_sub (Or.inl ⟨h2, hg, by rw [htg, q.2]⟩)
      exact hE.2.2 _ _ _ r1 (hE.2.2 _ _ _ hpair r2)
    · have r1 : Cl (rr N tp (Pn p1 p2 i e)) s (p2 i) := Cl_sub (Or.inl ⟨hs, h2, by rw [hts, q.2]⟩)
      have r2 : Cl (rr N tp (Pn p1 p2 i e)) (p1 i) g := Cl_sub (Or.inl ⟨h1, hg, by rw [htg, q.1]⟩)
      exact hE.2.2 _ _ _ r1 (hE.2.2 _ _ _ (hE.2.1 _ _ hpair) r2)
  intro u w
  constructor
  · refine fun h => Cl_mono (fun a b hab => ?_) h
    rcases hab with ⟨qa, qb, q⟩ | ⟨j, j1, j2, j3, j4⟩
    · rw [htp a qa, htp b qb] at q
      have ra : Cl (rr N tp (Pn p1 p2 i e)) a (tp a) := Cl_sub (Or.inl ⟨qa, hlt a qa, (hid a qa).symm⟩)
      have rb : Cl (rr N tp (Pn p1 p2 i e)) (tp b) b := Cl_sub (Or.inl ⟨hlt b qb, qb, hid b qb⟩)
      refine hE.2.2 _ _ _ ra (hE.2.2 _ _ _ ?_ rb)
      by_cases c1 : tp a = s
      · rw [if_pos c1] at q
        by_cases c2 : tp b = s
        · rw [c1, c2]; exact hE.1 _
        · rw [if_neg c2] at q; rw [c1, ← q]; exact hsg
      · rw [if_neg c1] at q
        by_cases c2 : tp b = s
        · rw [if_pos c2] at q; rw [c2, q]; exact hE.2.1 _ _ hsg
        · rw [if_neg c2] at q; rw [q]; exact hE.1 _
    · exact Cl_sub (Or.inr ⟨j, by omega, j2, j3, j4⟩)
  · refine fun h => Cl_mono (fun a b hab => Cl_sub ?_) h
    rcases hab with ⟨qa, qb, q⟩ | ⟨j, j1, j2, j3, j4⟩
    · exact Or.inl ⟨qa, qb, by rw [htp a qa, htp b qb, q]⟩
    · by_cases c : j = i
      · subst c
        refine Or.inl ⟨by rw [j3]; exact h1, by rw [j4]; exact h2, ?_⟩
        rw [j3, j4, htp _ h1, htp _ h2]
        rcases hp with q | q
        · rw [if_pos q.1, q.2]; split <;> rfl
        · rw [if_pos q.2, q.1]; split <;> rfl
      · exact Or.inr ⟨j, by omega, j2, j3, j4⟩
theorem unite_ok (hT : teA N tm T) (h : phA N tm C F G now e p1 p2 i n lo trees) (hi : i < e) {t : Nat} (ht : now ≤ t) (htn : t < 1000000) {post : ClS → FoS → Prop}
    (hp : ∀ C' F' G' now' n' lo' trees', phA N tm C' F' G' now' e p1 p2 (i + 1) n' lo' trees' → now' ≤ t → (∀ τ x, τ < t → G' τ x = G τ x) → (∀ u w, Cl (rr N (G' now') (Pn p1 p2 (i + 1) e)) u w ↔ Cl (rr N (G now) (Pn p1 p2 i e)) u w) → (trees' < trees ∨ (trees' = trees ∧ n' = n)) → post C' F') : wp_X0_unite T C F (nI i) (nI t) post := by
  have hN : N ≤ 250 := hT.2.1
  have h0 := h
  obtain ⟨up, jt, mem, low, nxt, ch, sg, hA, hI, hpd, hlo, hinj, hnst, hcnt, hB⟩ := h
  obtain ⟨o1, o2, o3, o4⟩ := hpd.2.2 i hi
  have he := hpd.2.1
  unfold wp_X0_unite
  refine ⟨pk_in i 310 (by omega), ?_⟩
  rw [nI_clamp (show i < 2 ^ 31 by omega), o1, o2]
  refine top_ok hN hA hI o3 ?_
  refine top_ok hN hA hI o4 ?_
  have hnow := hI.2.2.2.2.1
  have hx : G now (p1 i) < N := frI_lt hI hnow _ o3
  have hy : G now (p2 i) < N := frI_lt hI hnow _ o4
  have hux := frI_top hI _ o3
  have huy := frI_top hI _ o4
  have hid : ∀ q, q < N → G now (G now q) = G now q := fun q hq => frI_self hI (frI_lt hI hnow q hq) (frI_top hI q hq) hnow
  refine pk_eq (G now (p1 i)) (G now (p2 i)) (fun heq => ?_) (fun hne => ?_)
  · refine hp C F G now n lo trees ⟨up, jt, mem, low, nxt, ch, sg, hA, hI, hpd, hlo, hinj, hnst, hcnt, tbI_R hB (fun u w q => (rr_skip hi o3 o4 heq u w).mpr q)⟩ ht (fun _ _ _ => rfl) (rr_skip hi o3 o4 heq) (Or.inr ⟨rfl, rfl⟩)
  · -- two classes
    refine ⟨pk_in (G now (p1 i)) 250 (by omega), pk_in (G now (p2 i)) 250 (by omega), ?_⟩
    have go : ∀ s g, s < N → g < N → up s = s → up g = g → s ≠ g → (((G now (p1 i) = s ∧ G now (p2 i) = g) ∨ (G now (p1 i) = g ∧ G now (p2 i) = s))) → wp_X0_loosenUsers T C F (nI s) (fun C_8 => wp_X1_join F (nI s) (nI g) (nI t) (fun F_9 => post C_8 F_9)) := by
      intro s g hs hg hus hug hsg hpr
      refine loosen_ok hT hA hI hs hus hlo hinj hnst hcnt (fun C' n' lo' hls => ?_)
      obtain ⟨⟨k1, k2, k3, k4, k5, k6⟩, k7, k8, k9, k10, k11, k12, k13, k14⟩ := hls
      refine join_ok hN hA hI hs hg hus hug hsg ht htn (fun F' hA' => ?_)
      have hI' := join_I hI hs hg hus hug hsg ht htn
      have hts := frI_self hI hs hus hnow
      have htg := frI_self hI hg hug hnow
      have htp : ∀ q, q < N → Gj G s g t t q = if G now q = s then g else G now q := by
        intro q hq
        unfold Gj
        rw [frI_late hI ht htn q hq]
        simp
      have hrr := rr_join hs hg hts htg (fun q hq => frI_lt hI hnow q hq) hid htp hi o3 o4 hpr
      have htr := join_trees hI hs hus
      refine hp C' F' (Gj G s g t) t n' lo' (trees - 1) ⟨_, _, _, _, _, ch, sg, hA', hI', ⟨by rw [k1]; exact hpd.1, hpd.2.1, fun j hj => by rw [k2, k3]; exact hpd.2.2 j hj⟩, k7, k8, k9, k10, ?_⟩ (Nat.le_refl _) (fun τ x hτ => by unfold Gj; rw [if_neg (by omega)]) hrr (Or.inl (by omega))
      obtain ⟨bA, b1, b2, b3, b4, b5, b6, b7⟩ := hB
      refine ⟨fun b hb => by rw [k4, k5, k6]; exact bA b hb, b1, b2, fun x a b hx hxt hs2 => ?_, fun x hx hs2 => ?_, fun x hx => ?_, fun x y hx hy h9 h10 => b6 x y hx hy (k11 x h9) (k11 y h10), fun x a b hx hxt => ?_⟩
      · have hab := hT.2.2.2.2.1 x a b hx.1 hxt
        have hx1 := hx.1
        have q := b3 x a b hx hxt (k11 x hs2)
        have na : ¬ G now a = s := fun z => k14 x a b hx1 hxt (Or.inl ⟨by omega, z⟩) hs2
        have nb : ¬ G now b = s := fun z => k14 x a b hx1 hxt (Or.inr ⟨by omega, z⟩) hs2
        rw [htp a (by omega), htp b (by omega), if_neg na, if_neg nb]
        exact q
      · refine (k13 x).mpr ?_
        by_cases c : Stn C x
        · exact Or.inr ⟨c, hs2⟩
        · exact Or.inl (b4 x hx c)
      · have hns : ¬ Stn C' x := by
          obtain ⟨a, ha, ea⟩ := hx
          rw [← ea]; exact k9 a ha
        rcases (k13 x).mp hx with q | q
        · have r := b5 x q
          refine ⟨r.1, hns, fun z => r.2.2 ?_⟩
          obtain ⟨z1, z2, z3, z4⟩ := z
          rw [htp _ z1] at z3
          rw [htp _ z2] at z4
          refine ⟨z1, z2, ?_, ?_⟩
          · by_cases c : G now (sg x / 250) = s
            · rw [if_pos c] at z3; rw [← z3, htg] at c; exact absurd c.symm hsg
            · rw [if_neg c] at z3; exact z3
          · by_cases c : G now (sg x % 250) = s
            · rw [if_pos c] at z4; rw [← z4, htg] at c; exact absurd c.symm hsg
            · rw [if_neg c] at z4; exact z4
        · obtain ⟨a, b, hxN, hxt, hab⟩ := k12 x q.1 q.2
          have hlt := hT.2.2.2.2.1 x a b hxN hxt
          have r := b3 x a b ⟨hxN, a, b, hxt⟩ hxt q.1
          have hb2 : G now b < N := frI_lt hI hnow b (by omega)
          refine ⟨r.1, hns, fun z => ?_⟩
          obtain ⟨z1, z2, z3, z4⟩ := z
          have d1 : sg x / 250 = G now a := by omega
          have d2 : sg x % 250 = G now b := by omega
          rw [d1] at z1 z3
          rw [d2] at z2 z4
          rcases hab with c | c
          · rw [htp _ z1, c, hts, if_pos rfl] at z3; exact hsg z3.symm
          · rw [htp _ z2, c, hts, if_pos rfl] at z4; exact hsg z4.symm
      · have hab := hT.2.2.2.2.1 x a b hx.1 hxt
        have hx1 := hx.1
        obtain ⟨y, c, d, q1, q2, q3, q4, q5, q6⟩ := b7 x a b hx hxt
        have hcd := hT.2.2.2.2.1 y c d q2 q3
        refine ⟨y, c, d, q1, q2, q3, (hrr x y).mpr q4, ?_, ?_⟩
        · rw [htp a (by omega), htp c (by omega), q5]
        · rw [htp b (by omega), htp d (by omega), q6]
    rw [nI_clamp (show G now (p1 i) < 2 ^ 31 by omega), nI_clamp (show G now (p2 i) < 2 ^ 31 by omega), hA.2.2.1 _ hx, hA.2.2.1 _ hy]
    refine ⟨fun _ => go _ _ hx hy hux huy hne (Or.inl ⟨rfl, rfl⟩), fun _ => go _ _ hy hx huy hux (Ne.symm hne) (Or.inr ⟨rfl, rfl⟩)⟩
end UN

/-! PURE: an application is taken out of the table; the users of a class are loosened -/
theorem lst_del {nb : Nat → Int32} {x z : Nat} {suf : List Nat} : ∀ {pre : List Nat} {h : Int32}, (pre ++ z :: x :: suf).Nodup → lst nb h (pre ++ z :: x :: suf) → lst (upd nb z (nb x)) h (pre ++ z :: suf)
  | [], h, hn, hl => by
    obtain ⟨h1, h2, h3⟩ := hl
    refine ⟨h1, ?_⟩
    rw [pk_us]
    refine lst_congr (fun y hy => pk_un (fun e => ?_)) h3
    rw [List.nil_append] at hn
    have h4 := (List.nodup_cons.mp hn).1
    exact h4 (by rw [← e]; exact List.mem_cons_of_mem _ hy)
  | y :: pre, h, hn, hl => by
    obtain ⟨h1, h2⟩ := hl
    rw [List.cons_append] at hn
    have h4 := List.nodup_cons.mp hn
    refine ⟨h1, ?_⟩
    have hyz : y ≠ z := fun e => h4.1 (by rw [e]; exact List.mem_append_right _ (List.mem_cons_self ..))
    rw [pk_un hyz]
    exact lst_del h4.2 h2
section TO
variable {N : Nat} {tm : Nat → Option (Nat × Nat)} {T : TeS} {C : ClS} {F : FoS} {up jt mem low nxt : Nat → Nat} {trees : Nat} {G : Nat → Nat → Nat} {now : Nat} {ch : Nat → List Nat} {sg : Nat → Nat} {LO D : Nat → Prop} {R : Rel} {tp : Nat → Nat}
/-- what the table says when x is out of its row -/
theorem takeOut_I (hB : tbI N tm C ch sg tp LO R D (fun _ => False)) {x : Nat} (hx : LO x) {pre suf : List Nat} (hch : ch (sg x % 256) = pre ++ x :: suf) {C' : ClS} (hS : cl_stands C' = cl_stands C) (hG : cl_sign C' = cl_sign C) (hrow : lst (cl_nextInBucket C') (cl_bucket C' (sg x % 256)) (pre ++ suf)) (hoth : ∀ b, b < 256 → b ≠ sg x % 256 → lst (cl_nextInBucket C') (cl_bucket C' b) (ch b)) :
    tbI N tm C' (fun b => if b = sg x % 256 then pre ++ suf else ch b) sg tp (fun y => LO y ∧ y ≠ x) R (fun y => D y ∧ y ≠ x) (fun y => y = x) ∧ ∀ b, b < 256 → x ∉ (if b = sg x % 256 then pre ++ suf else ch b) := by
  obtain ⟨bA, b1, b2, b3, b4, b5, b6, b7⟩ := hB
  have hb0 : sg x % 256 < 256 := Nat.mod_lt _ (by decide)
  obtain ⟨a1, a2, a3⟩ := bA _ hb0
  rw [hch] at a2
  have hxn : x ∉ pre ++ suf := by
    have h := List.nodup_append.mp a2
    intro hm
    rcases List.mem_append.mp hm with h2 | h2
    · exact h.2.2 x h2 x (List.mem_cons_self ..) rfl
    · exact (List.nodup_cons.mp h.2.1).1 h2
  have hin : ∀ y, y ∈ (if sg y % 256 = sg x % 256 then pre ++ suf else ch (sg y % 256)) ↔ y ∈ ch (sg y % 256) ∧ y ≠ x := by
    intro y
    by_cases c : sg y % 256 = sg x % 256
    · rw [if_pos c, c, hch]
      constructor
      · intro h
        refine ⟨?_, fun e => hxn (by rw [← e]; exact h)⟩
        rcases List.mem_append.mp h with h2 | h2
        · exact List.mem_append_left _ h2
        · exact List.mem_append_right _ (List.mem_cons_of_mem _ h2)
      · intro ⟨h, hne⟩
        rcases List.mem_append.mp h with h2 | h2
        · exact List.mem_append_left _ h2
        · exact List.mem_append_right _ ((List.mem_cons.mp h2).resolve_left hne)
    · rw [if_neg c]
      exact ⟨fun h => ⟨h, fun e => c (by rw [e])⟩, fun h => h.1⟩
  have hSe : ∀ z, Stn C' z ↔ Stn C z := fun z => by unfold Stn; rw [hS]
  refine ⟨⟨fun b hb => ?_, fun y hy => ?_, fun y hy => b2 y hy.1, fun y c d hy hyt hs => ?_, fun y hy hs => ?_, fun y hy => ?_, fun y z hy hz h1 h2 => ?_, fun y c d hy hyt => ?_⟩, fun b hb hm => ?_⟩
  · show lst (cl_nextInBucket C') (cl_bucket C' b) (if b = sg x % 256 then pre ++ suf else ch b) ∧ (if b = sg x % 256 then pre ++ suf else ch b).Nodup ∧ ∀ y, y ∈ (if b = sg x % 256 then pre ++ suf else ch b) → y < N ∧ cl_sign C' y = nI (sg y) ∧ sg y < 62500 ∧ sg y % 256 = b
    rw [hG]
    by_cases c : b = sg x % 256
    · subst c
      simp only [if_true]
      refine ⟨hrow, ?_, fun y hy => a3 y ?_⟩
      · have h := List.nodup_append.mp a2
        refine List.nodup_append.mpr ⟨h.1, (List.nodup_cons.mp h.2.1).2, fun u hu w hw => h.2.2 u hu w (List.mem_cons_of_mem _ hw)⟩
      · rw [hch]
        rcases List.mem_append.mp hy with h2 | h2
        · exact List.mem_append_left _ h2
        · exact List.mem_append_right _ (List.mem_cons_of_mem _ h2)
    · simp only [if_neg c]
      obtain ⟨q1, q2, q3⟩ := bA b hb
      exact ⟨hoth b hb c, q2, q3⟩
  · have h := (hin y).mp hy
    exact ⟨b1 y h.1, h.2⟩
  · have h := b3 y c d hy.1 hyt ((hSe y).mp hs)
    exact ⟨(hin y).mpr ⟨h.1, hy.2⟩, h.2⟩
  · have h := (hin y).mp hy
    exact ⟨b4 y h.1 (fun q => hs ((hSe y).mpr q)), h.2⟩
  · have h := b5 y hy.1
    exact ⟨(hin y).mpr ⟨h.1, hy.2⟩, fun q => h.2.1 ((hSe y).mp q), h.2.2⟩
  · exact b6 y z ((hin y).mp hy).1 ((hin z).mp hz).1 ((hSe y).mp h1) ((hSe z).mp h2)
  · obtain ⟨w, c3, d3, hw, hwN, hwt, hR, r1, r2⟩ := b7 y c d hy.1 hyt
    refine ⟨w, c3, d3, ?_, hwN, hwt, hR, r1, r2⟩
    by_cases c : w = x
    · exact Or.inr c
    · exact Or.inl ((hin w).mpr ⟨hw.resolve_right id, c⟩)
  · by_cases c : b = sg x % 256
    · rw [if_pos c] at hm; exact hxn hm
    · rw [if_neg c] at hm
      exact c ((bA b hb).2.2 x hm).2.2.2.symm
theorem takeOut_ok (hN : N ≤ 250) (hB : tbI N tm C ch sg tp LO R D (fun _ => False)) {x : Nat} (hx : LO x) {post : ClS → Prop}
    (hp : ∀ C' ch', tbI N tm C' ch' sg tp (fun y => LO y ∧ y ≠ x) R (fun y => D y ∧ y ≠ x) (fun y => y = x) → (∀ b, b < 256 → x ∉ ch' b) → cl_stands C' = cl_stands C → cl_expected C' = cl_expected C → cl_one C' = cl_one C → cl_other C' = cl_other C → cl_loose C' = cl_loose C → cl_looseTotal C' = cl_looseTotal C → post C') : wp_X0_takeOut C (nI x) post := by
  have hB0 := hB
  obtain ⟨bA, b1, b2, b3, b4, b5, b6, b7⟩ := hB
  have hxin := (b5 x hx).1
  have hb0 : sg x % 256 < 256 := Nat.mod_lt _ (by decide)
  obtain ⟨a1, a2, a3⟩ := bA _ hb0
  obtain ⟨q1, q2, q3, -⟩ := a3 x hxin
  obtain ⟨pre, suf, hch⟩ := List.append_of_mem hxin
  have hlen : (ch (sg x % 256)).length ≤ 250 := Nat.le_trans (nodup_len N _ a2 (fun y hy => (a3 y hy).1)) hN
  have hcx : (nI x).toNatClampNeg = x := nI_clamp (by omega)
  have hcm : (nI (sg x % 256)).toNatClampNeg = sg x % 256 := nI_clamp (by omega)
  unfold wp_X0_takeOut
  refine ⟨pk_in x 250 (by omega), ?_⟩
  rw [hcx, q2]
  intro x2 e2
  have e2 : x2 = nI (sg x % 256) := by
    rw [e2]
    exact pk_rem (d := 256) (by omega) (by decide) (by decide)
  subst e2
  refine ⟨pk_in (sg x % 256) 256 hb0, ?_⟩
  rw [hcm]
  rw [hch] at a1 a2 hlen
  cases pre with
  | nil =>
    obtain ⟨h1, h2⟩ := a1
    refine ⟨fun _ => ?_, fun h => absurd h1 h⟩
    obtain ⟨r1, r2⟩ := takeOut_I hB0 hx (C' := cl_s_bucket C (upd (cl_bucket C) (sg x % 256) (cl_nextInBucket C x))) hch rfl rfl (by
        show lst (cl_nextInBucket C) (upd (cl_bucket C) (sg x % 256) (cl_nextInBucket C x) (sg x % 256)) ([] ++ suf)
        rw [pk_us]; exact h2) (fun b hb c => by
        show lst (cl_nextInBucket C) (upd (cl_bucket C) (sg x % 256) (cl_nextInBucket C x) b) (ch b)
        rw [pk_un c]; exact (bA b hb).1)
    exact hp _ _ r1 r2 rfl rfl rfl rfl rfl rfl
  | cons y0 pre =>
    have hn0 := List.nodup_cons.mp a2
    have hy0x : y0 ≠ x := fun e => hn0.1 (by rw [e]; exact List.mem_append_right _ (List.mem_cons_self ..))
    have hy0 : y0 < N := (a3 y0 (by rw [hch]; exact List.mem_cons_self ..)).1
    have hbk : cl_bucket C (sg x % 256) = nI y0 := a1.1
    refine ⟨fun h => absurd (nI_inj (by omega) (by omega) (hbk.symm.trans h)) hy0x, fun _ => ?_⟩
    intro x5 e5
    rw [hbk] at e5
    subst e5
    refine wl3_ind (fun l3 l4 C2 => C2 = C ∧ ∃ dn z rs, l3 = nI z ∧ l4 = nI dn.length ∧ y0 :: pre = dn ++ z :: rs) (fun _ l4 _ => 250 - l4.toNatClampNeg) ?_ _ _ _ ⟨rfl, [], y0, pre, rfl, rfl, rfl⟩
    rintro kb l3 l4 C2 ⟨rfl, dn, z, rs, rfl, rfl, hsp⟩ hk
    have hrow : lst (cl_nextInBucket C2) (cl_bucket C2 (sg x % 256)) (dn ++ z :: (rs ++ x :: suf)) := by
      have h := a1
      rw [hsp, List.append_assoc] at h
      exact h
    have hnd : (dn ++ z :: (rs ++ x :: suf)).Nodup := by
      have h := a2
      rw [hsp, List.append_assoc] at h
      exact h
    have hl2 : (dn ++ z :: (rs ++ x :: suf)).length ≤ 250 := by
      have h := hlen
      rw [hsp, List.append_assoc] at h
      exact h
    have hzm : z ∈ ch (sg x % 256) := by rw [hch, hsp, List.append_assoc]; exact List.mem_append_right _ (List.mem_cons_self ..)
    have hz : z < N := (a3 z hzm).1
    have hnz : lst (cl_nextInBucket C2) (cl_nextInBucket C2 z) (rs ++ x :: suf) := by
      have aux : ∀ (dn : List Nat) (h : Int32), lst (cl_nextInBucket C2) h (dn ++ z :: (rs ++ x :: suf)) → lst (cl_nextInBucket C2) (cl_nextInBucket C2 z) (rs ++ x :: suf) := by
        intro dn
        induction dn with
        | nil => intro h hl; exact hl.2
        | cons w dn ih => intro h hl; exact ih _ hl.2
      exact aux dn _ hrow
    simp only [List.length_append, List.length_cons] at hl2
    unfold B_X0_takeOut_44
    refine pk_le 250 dn.length (fun h => by omega) (fun _ => ?_)
    refine ⟨fun h => absurd h (nI_ne1 (by omega)), fun _ => ?_⟩
    refine ⟨pk_in z 250 (by omega), ?_⟩
    rw [nI_clamp (show z < 2 ^ 31 by omega)]
    cases rs with
    | nil =>
      have e1 : cl_nextInBucket C2 z = nI x := hnz.1
      refine ⟨fun _ => ?_, fun h => absurd e1 h⟩
      refine ⟨pk_in x 250 (by omega), ?_⟩
      rw [hcx]
      have hch2 : ch (sg x % 256) = (dn ++ [z]) ++ x :: suf := by rw [hch, hsp]
      obtain ⟨r1, r2⟩ := takeOut_I hB0 hx (C' := cl_s_nextInBucket C2 (upd (cl_nextInBucket C2) z (cl_nextInBucket C2 x))) hch2 rfl rfl (by
          show lst (upd (cl_nextInBucket C2) z (cl_nextInBucket C2 x)) (cl_bucket C2 (sg x % 256)) ((dn ++ [z]) ++ suf)
          rw [List.append_assoc]
          exact lst_del hnd hrow) (fun b hb c => by
          show lst (upd (cl_nextInBucket C2) z (cl_nextInBucket C2 x)) (cl_bucket C2 b) (ch b)
          refine lst_congr (fun w hw => pk_un (fun e => ?_)) (bA b hb).1
          have h1 := ((bA b hb).2.2 w hw).2.2.2
          rw [e, (a3 z hzm).2.2.2] at h1
          exact c h1.symm)
      exact hp _ _ r1 r2 rfl rfl rfl rfl rfl rfl
    | cons w rs =>
      have e1 : cl_nextInBucket C2 z = nI w := hnz.1
      have hwm : w ∈ ch (sg x % 256) := by rw [hch, hsp, List.append_assoc]; exact List.mem_append_right _ (List.mem_cons_of_mem _ (List.mem_cons_self ..))
      have hw : w < N := (a3 w hwm).1
      have hwx : w ≠ x := by
        intro e
        have h := (List.nodup_append.mp hnd).2.1
        have h := (List.nodup_cons.mp h).2
        rw [List.cons_append] at h
        exact (List.nodup_cons.mp h).1 (by rw [e]; exact List.mem_append_right _ (List.mem_cons_self ..))
      refine ⟨fun h => absurd (nI_inj (by omega) (by omega) (e1.symm.trans h)) hwx, fun _ => ?_⟩
      intro x11 e11
      refine hk _ _ _ ⟨rfl, dn ++ [z], w, rs, by rw [e11, e1], by rw [List.length_append]; exact nI_1 _, by rw [hsp]; simp⟩ ?_
      rw [nI_1, nI_clamp (by omega), nI_clamp (by omega)]
      simp only [List.length_cons] at hl2
      omega
end TO

/-! PURE: the terms' picture, the table of standing applications -/
def pt (tm : Nat → Option (Nat × Nat)) (h : Nat) : Option Nat := (tm (h / 2)).map (fun q => if h % 2 = 0 then q.1 else q.2)
/-- o is the greatest use of p below b -/
def isgu (tm : Nat → Option (Nat × Nat)) (p b : Nat) (o : Option Nat) : Prop := (∀ u, o = some u → u < b ∧ pt tm u = some p) ∧ ∀ h, h < b → pt tm h = some p → ∃ u, o = some u ∧ h ≤ u
def teA (N : Nat) (tm : Nat → Option (Nat × Nat)) (T : TeS) : Prop :=
  te_total T = nI N ∧ N ≤ 250 ∧ (∀ j, j < N → te_first T j = oI ((tm j).map (fun q => q.1))) ∧ (∀ j, j < N → te_second T j = oI ((tm j).map (fun q => q.2))) ∧
  (∀ j a b, j < N → tm j = some (a, b) → a < j ∧ b < j) ∧ (∀ i j q, i < N → j < N → tm i = some q → tm j = some q → i = j) ∧
  (∀ p, p < N → ∃ o, te_lastUse T p = oI o ∧ isgu tm p (2 * N) o) ∧ (∀ h p, h < 2 * N → pt tm h = some p → ∃ o, te_useBefore T h = oI o ∧ isgu tm p h o)
def lst (nb : Nat → Int32) : Int32 → List Nat → Prop
  | h, [] => h = -1
  | h, x :: l => h = nI x ∧ lst nb (nb x) l
theorem lst_congr {nb nb' : Nat → Int32} : ∀ {l : List Nat} {h : Int32}, (∀ x, x ∈ l → nb' x = nb x) → lst nb h l → lst nb' h l
  | [], _, _, h => h
  | x :: l, _, hc, h => ⟨h.1, by rw [hc x (List.mem_cons_self ..)]; exact lst_congr (fun y hy => hc y (List.mem_cons_of_mem _ hy)) h.2⟩
def Stn (C : ClS) (x : Nat) : Prop := ¬ cl_stands C x = 0
def tbA (N : Nat) (tm : Nat → Option (Nat × Nat)) (C : ClS) (ch : Nat → List Nat) (sg : Nat → Nat) : Prop :=
  ∀ b, b < 256 → lst (cl_nextInBucket C) (cl_bucket C b) (ch b) ∧ (ch b).Nodup ∧ ∀ x, x ∈ ch b → x < N ∧ cl_sign C x = nI (sg x) ∧ sg x < 62500 ∧ sg x % 256 = b
/-- the table: D the applications that are looked after, LO those that are loose, R what is joined or expected, cur one that is just out -/
def tbI (N : Nat) (tm : Nat → Option (Nat × Nat)) (C : ClS) (ch : Nat → List Nat) (sg : Nat → Nat) (tp : Nat → Nat) (LO : Nat → Prop) (R : Rel) (D cur : Nat → Prop) : Prop :=
  tbA N tm C ch sg ∧
  (∀ x, x ∈ ch (sg x % 256) → D x) ∧
  (∀ x, D x → x < N ∧ ∃ a b, tm x = some (a, b)) ∧
  (∀ x a b, D x → tm x = some (a, b) → Stn C x → x ∈ ch (sg x % 256) ∧ sg x = tp a * 250 + tp b) ∧
  (∀ x, x ∈ ch (sg x % 256) → ¬ Stn C x → LO x) ∧
  (∀ x, LO x → x ∈ ch (sg x % 256) ∧ ¬ Stn C x ∧ ¬ (sg x / 250 < N ∧ sg x % 250 < N ∧ tp (sg x / 250) = sg x / 250 ∧ tp (sg x % 250) = sg x % 250)) ∧
  (∀ x y, x ∈ ch (sg x % 256) → y ∈ ch (sg y % 256) → Stn C x → Stn C y → sg x = sg y → x = y) ∧
  (∀ x a b, D x → tm x = some (a, b) → ∃ y c d, (y ∈ ch (sg y % 256) ∨ cur y) ∧ y < N ∧ tm y = some (c, d) ∧ R x y ∧ tp a = tp c ∧ tp b = tp d)
/-- what is expected: pairs from i on, below e -/
def Pn (p1 p2 : Nat → Nat) (i e : Nat) : Rel := fun x y => ∃ j, i ≤ j ∧ j < e ∧ x = p1 j ∧ y = p2 j
def pdA (N : Nat) (C : ClS) (e : Nat) (p1 p2 : Nat → Nat) : Prop := cl_expected C = nI e ∧ e ≤ 310 ∧ ∀ i, i < e → cl_one C i = nI (p1 i) ∧ cl_other C i = nI (p2 i) ∧ p1 i < N ∧ p2 i < N
def loA (C : ClS) (n : Nat) (lo : Nat → Nat) : Prop := cl_looseTotal C = nI n ∧ n ≤ 250 ∧ ∀ i, i < n → cl_loose C i = nI (lo i)
/-- joined, or in P -/
def rr (N : Nat) (tp : Nat → Nat) (P : Rel) : Rel := fun x y => (x < N ∧ y < N ∧ tp x = tp y) ∨ P x y
def eqT (tp : Nat → Nat) : Rel := fun x y => tp x = tp y
theorem nodup_len : ∀ (N : Nat) (l : List Nat), l.Nodup → (∀ x, x ∈ l → x < N) → l.length ≤ N
  | 0, l, _, h => by
    cases l with
    | nil => exact Nat.le_refl _
    | cons x l => exact absurd (h x (List.mem_cons_self ..)) (Nat.not_lt_zero _)
  | N + 1, l, hn, h => by
    by_cases c : N ∈ l
    · have h1 := nodup_len N (l.erase N) (hn.erase N) (fun x hx => by
        have h2 := (List.Nodup.mem_erase_iff hn).mp hx
        have := h x h2.2
        have := h2.1
        omega)
      rw [List.length_erase_of_mem c] at h1
      omega
    · have h1 := nodup_len N l hn (fun x hx => by
        have := h x hx
        have h3 : x ≠ N := fun e => c (by rw [← e]; exact hx)
        omega)
      omega
theorem expect_ok {N : Nat} {C : ClS} {e : Nat} {p1 p2 : Nat → Nat} (hp : pdA N C e p1 p2) (he : e < 310) {a b : Nat} (ha : a < N) (hb : b < N) {post : ClS → Prop}
    (h : ∀ C', pdA N C' (e + 1) (fun i => if i = e then a else p1 i) (fun i => if i = e then b else p2 i) → cl_bucket C' = cl_bucket C → cl_nextInBucket C' = cl_nextInBucket C → cl_sign C' = cl_sign C → cl_stands C' = cl_stands C → cl_loose C' = cl_loose C → cl_looseTotal C' = cl_looseTotal C → post C') : wp_X0_expect C (nI a) (nI b) post := by
  unfold wp_X0_expect
  rw [hp.1]
  refine pk_le 310 e (fun h => by omega) (fun _ => ?_)
  refine ⟨pk_in e 310 he, ?_⟩
  rw [nI_clamp (show e < 2 ^ 31 by omega)]
  refine h _ ⟨nI_1 e, by omega, fun i hi => ?_⟩ rfl rfl rfl rfl rfl rfl
  show upd (cl_one C) e (nI a) i = nI (if i = e then a else p1 i) ∧ upd (cl_other C) e (nI b) i = nI (if i = e then b else p2 i) ∧ (if i = e then a else p1 i) < N ∧ (if i = e then b else p2 i) < N
  by_cases c : i = e
  · subst c
    rw [pk_us, pk_us]
    simp only [if_true]
    exact ⟨trivial, trivial, ha, hb⟩
  · rw [pk_un c, pk_un c]
    simp only [if_neg c]
    exact hp.2.2 i (by omega)
section PL
variable {N : Nat} {tm : Nat → Option (Nat × Nat)} {T : TeS} {C : ClS} {F : FoS} {up jt mem low nxt : Nat → Nat} {trees : Nat} {G : Nat → Nat → Nat} {now : Nat} {ch : Nat → List Nat} {sg : Nat → Nat} {LO D0 : Nat → Prop} {p1 p2 : Nat → Nat} {e : Nat}
theorem sg_inj {a b c d : Nat} (hb : b < 250) (hd : d < 250) (h : a * 250 + b = c * 250 + d) : a = c ∧ b = d := by omega
theorem place_ok (hT : teA N tm T) (hA : frA N F up jt mem low nxt trees now) (hI : frI N up jt mem low nxt trees G now) {x a b : Nat} (hx : x < N) (hxt : tm x = some (a, b)) (hB : tbI N tm C ch sg (G now) LO (Cl (rr N (G now) (Pn p1 p2 0 e))) D0 (fun y => y = x)) (hpd : pdA N C e p1 p2) (he : e < 310) (hxin : ∀ b, b < 256 → x ∉ ch b) (hns : Stn C x → ∀ y, D0 y → ¬ cg N tm (eqT (G now)) x y) {post : ClS → Prop}
    (h1 : ∀ C' e' p1' p2' ch' sg', pdA N C' e' p1' p2' → (∀ j, j < e → p1' j = p1 j ∧ p2' j = p2 j) → (e' = e ∨ (e' = e + 1 ∧ p1' e = x ∧ p2' e ≠ x ∧ cg N tm (eqT (G now)) x (p2' e))) → tbI N tm C' ch' sg' (G now) LO (Cl (rr N (G now) (Pn p1' p2' 0 e'))) (fun y => D0 y ∨ y = x) (fun _ => False) → cl_loose C' = cl_loose C → cl_looseTotal C' = cl_looseTotal C → post C') : wp_X0_place T C F (nI x) post := by
  have hN : N ≤ 250 := hT.2.1
  obtain ⟨bA, b1, b2, b3, b4, b5, b6, b7⟩ := hB
  have hab := hT.2.2.2.2.1 x a b hx hxt
  unfold wp_X0_place
  refine ⟨pk_in x 250 (by omega), ?_⟩
  have hcx : (nI x).toNatClampNeg = x := nI_clamp (by omega)
  rw [hcx, hT.2.2.1 x hx, hT.2.2.2.1 x hx, hxt]
  show wp_X1_top F (nI a) _
  refine top_ok hN hA hI (by omega) ?_
  show wp_X1_top F (nI b) _
  refine top_ok hN hA hI (by omega) ?_
  have hta : G now a < N := frI_lt hI hI.2.2.2.2.1 a (by omega)
  have htb : G now b < N := frI_lt hI hI.2.2.2.2.1 b (by omega)
  have hra : up (G now a) = G now a := frI_top hI a (by omega)
  have hrb : up (G now b) = G now b := frI_top hI b (by omega)
  have hga : G now (G now a) = G now a := frI_self hI hta hra hI.2.2.2.2.1
  have hgb : G now (G now b) = G now b := frI_self hI htb hrb hI.2.2.2.2.1
  intro x4 e4
  obtain ⟨v, hv⟩ : ∃ v, v = G now a * 250 + G now b := ⟨_, rfl⟩
  have hv2 : v < 62500 := by omega
  have e4 : x4 = nI v := by
    rw [e4, hv, show (250 : Int32) = nI 250 from rfl, pk_mul, nI_add]
  subst e4
  intro x5 e5
  have e5 : x5 = nI (v % 256) := by
    rw [e5]
    exact pk_rem (d := 256) (by omega) (by decide) (by decide)
  subst e5
  have hm : v % 256 < 256 := Nat.mod_lt _ (by decide)
  have hcm : (nI (v % 256)).toNatClampNeg = v % 256 := nI_clamp (by omega)
  refine ⟨pk_in (v % 256) 256 hm, ?_⟩
  rw [hcm]
  intro x7 e7
  obtain ⟨a1, a2, a3⟩ := bA (v % 256) hm
  have hlen : (ch (v % 256)).length ≤ 250 := Nat.le_trans (nodup_len N _ a2 (fun y hy => (a3 y hy).1)) hN
  refine wl3_ind (fun l6 l7 C2 => C2 = C ∧ ∃ i l, l7 = nI i ∧ i + l.length ≤ 250 ∧ lst (cl_nextInBucket C) l6 l ∧ (∀ y, y ∈ l → y ∈ ch (v % 256)) ∧ ∀ y, y ∈ ch (v % 256) → y ∈ l ∨ sg y ≠ v) (fun _ l7 _ => 250 - l7.toNatClampNeg) ?_ _ _ _ ⟨rfl, 0, ch (v % 256), rfl, by omega, by rw [e7]; exact a1, fun _ h => h, fun _ h => Or.inl h⟩
  rintro kb l6 l7 C2 ⟨rfl, i, l, rfl, hi, hl, hsub, hall⟩ hk
  have ins : (∀ y, y ∈ ch (v % 256) → sg y ≠ v) → K_X0_place_47_96 (nI x) (nI v) (nI (v % 256)) post l6 (nI i) C2 := by
    intro hno
    unfold K_X0_place_47_96
    refine ⟨pk_in x 250 (by omega), pk_in (v % 256) 256 hm, ?_⟩
    rw [hcx, hcm]
    refine h1 _ e p1 p2 (fun b => if b = v % 256 then x :: ch b else ch b) (fun y => if y = x then v else sg y) ⟨hpd.1, hpd.2.1, hpd.2.2⟩ (fun _ _ => ⟨rfl, rfl⟩) (Or.inl rfl) ?_ rfl rfl
    have hin : ∀ y, y ∈ (if (if y = x then v else sg y) % 256 = v % 256 then x :: ch ((if y = x then v else sg y) % 256) else ch ((if y = x then v else sg y) % 256)) ↔ y = x ∨ y ∈ ch (sg y % 256) := by
      intro y
      by_cases c : y = x
      · subst c; simp
      · rw [if_neg c]
        by_cases c2 : sg y % 256 = v % 256
        · rw [if_pos c2]
          simp [c]
        · rw [if_neg c2]
          simp [c]
    have hst : ∀ y, Stn (cl_s_stands (cl_s_sign (cl_s_nextInBucket (cl_s_bucket C2 (upd (cl_bucket C2) (v % 256) (nI x))) (upd (cl_nextInBucket C2) x (cl_bucket C2 (v % 256)))) (upd (cl_sign C2) x (nI v))) (upd (cl_stands C2) x (1 : Int32))) y ↔ y = x ∨ (y ≠ x ∧ Stn C2 y) := by
      intro y
      show ¬ upd (cl_stands C2) x (1 : Int32) y = 0 ↔ _
      by_cases c : y = x
      · subst c; rw [pk_us]; simp
      · rw [pk_un c]; simp [c, Stn]
    have hxn : ∀ y, y ∈ ch (sg y % 256) → y ≠ x := fun y hy e => hxin (sg y % 256) (Nat.mod_lt _ (by decide)) (by rw [← e]; exact hy)
    refine ⟨?_, ?_, ?_, ?_, ?_, ?_, ?_, ?_⟩
    · intro b hb
      obtain ⟨q1, q2, q3⟩ := bA b hb
      show lst (upd (cl_nextInBucket C2) x (cl_bucket C2 (v % 256))) (upd (cl_bucket C2) (v % 256) (nI x) b) (if b = v % 256 then x :: ch b else ch b) ∧ (if b = v % 256 then x :: ch b else ch b).Nodup ∧ ∀ y, y ∈ (if b = v % 256 then x :: ch b else ch b) → y < N ∧ upd (cl_sign C2) x (nI v) y = nI (if y = x then v else sg y) ∧ (if y = x then v else sg y) < 62500 ∧ (if y = x then v else sg y) % 256 = b
      have hcong : lst (upd (cl_nextInBucket C2) x (cl_bucket C2 (v % 256))) (cl_bucket C2 b) (ch b) := lst_congr (fun y hy => pk_un (fun e => hxin b hb (by rw [← e]; exact hy))) q1
      by_cases c : b = v % 256
      · subst c
        simp only [if_true]
        refine ⟨⟨pk_us, ?_⟩, List.nodup_cons.mpr ⟨hxin _ hb, q2⟩, fun y hy => ?_⟩
        · rw [pk_us]; exact hcong
        · rcases List.mem_cons.mp hy with h | h
          · subst h
            rw [pk_us]
            simp only [if_true]
            exact ⟨hx, trivial, hv2, trivial⟩
          · have hne : y ≠ x := fun e => hxin _ hb (by rw [← e]; exact h)
            rw [pk_un hne, if_neg hne]
            exact q3 y h
      · simp only [if_neg c]
        rw [pk_un c]
        refine ⟨hcong, q2, fun y hy => ?_⟩
        have hne : y ≠ x := fun e => hxin _ hb (by rw [← e]; exact hy)
        rw [pk_un hne, if_neg hne]
        exact q3 y hy
    · intro y hy
      rcases (hin y).mp hy with h | h
      · exact Or.inr h
      · exact Or.inl (b1 y h)
    · intro y hy
      rcases hy with h | h
      · exact b2 y h
      · subst h; exact ⟨hx, a, b, hxt⟩
    · intro y c d hy hyt hs
      by_cases cc : y = x
      · subst cc
        rw [hxt] at hyt
        cases hyt
        exact ⟨(hin y).mpr (Or.inl rfl), by simp only [if_true]; exact hv⟩
      · have hD : D0 y := hy.resolve_right cc
        have hs2 : Stn C2 y := (((hst y).mp hs).resolve_left cc).2
        have h3 := b3 y c d hD hyt hs2
        exact ⟨(hin y).mpr (Or.inr h3.1), by simp only [if_neg cc]; exact h3.2⟩
    · intro y hy hs
      rcases (hin y).mp hy with h | h
      · exact absurd ((hst y).mpr (Or.inl h)) hs
      · exact b4 y h (fun z => hs ((hst y).mpr (Or.inr ⟨hxn y h, z⟩)))
    · intro y hy
      obtain ⟨q1, q2, q3⟩ := b5 y hy
      have hne := hxn y q1
      refine ⟨(hin y).mpr (Or.inr q1), fun z => ?_, by simp only [if_neg hne]; exact q3⟩
      exact q2 (((hst y).mp z).resolve_left hne).2
    · intro y z hy hz hsy hsz
      show (if y = x then v else sg y) = (if z = x then v else sg z) → y = z
      intro hyz
      by_cases c : y = x
      · by_cases c2 : z = x
        · rw [c, c2]
        · rw [if_pos c, if_neg c2] at hyz
          have hz2 := ((hin z).mp hz).resolve_left c2
          rw [← hyz] at hz2
          exact absurd hyz.symm (hno z hz2)
      · by_cases c2 : z = x
        · rw [if_neg c, if_pos c2] at hyz
          have hy2 := ((hin y).mp hy).resolve_left c
          rw [hyz] at hy2
          exact absurd hyz (hno y hy2)
        · rw [if_neg c, if_neg c2] at hyz
          exact b6 y z (((hin y).mp hy).resolve_left c) (((hin z).mp hz).resolve_left c2) (((hst y).mp hsy).resolve_left c).2 (((hst z).mp hsz).resolve_left c2).2 hyz
    · intro y c d hy hyt
      by_cases cc : y = x
      · subst cc
        exact ⟨y, c, d, Or.inl ((hin y).mpr (Or.inl rfl)), hx, hyt, (Cl_eqv _).1 y, rfl, rfl⟩
      · obtain ⟨z, c2, d2, hz, hzN, hzt, hR, r1, r2⟩ := b7 y c d (hy.resolve_right cc) hyt
        refine ⟨z, c2, d2, Or.inl ((hin z).mpr ?_), hzN, hzt, hR, r1, r2⟩
        rcases hz with h | h
        · exact Or.inr h
        · exact Or.inl h
  unfold B_X0_place_47
  refine pk_le 250 i (fun h => ?_) (fun h => ?_)
  · cases l with
    | nil => exact ins (fun y hy => (hall y hy).resolve_left List.not_mem_nil)
    | cons y l => simp at hi; omega
  · cases l with
    | nil =>
      have e6 : l6 = -1 := hl
      exact ⟨fun _ => ins (fun y hy => (hall y hy).resolve_left List.not_mem_nil), fun h => absurd e6 h⟩
    | cons y l =>
      obtain ⟨e6, hl2⟩ := hl
      subst e6
      have hy := hsub y (List.mem_cons_self ..)
      obtain ⟨q1, q2, q3, q4⟩ := a3 y hy
      refine ⟨fun h => absurd h (nI_ne1 (by omega)), fun _ => ?_⟩
      refine ⟨pk_in y 250 (by omega), ?_⟩
      rw [nI_clamp (show y < 2 ^ 31 by omega), q2]
      refine pk_eq (sg y) v (fun hs => ?_) (fun hs => ?_)
      · -- the same sign: it is expected to be the same
        have hyin : y ∈ ch (sg y % 256) := by rw [hs]; exact hy
        have hxy : y ≠ x := fun e => hxin _ hm (by rw [← e]; exact hy)
        have hSy : Stn C2 y := by
          by_cases c : Stn C2 y
          · exact c
          · have h5 := (b5 y (b4 y hyin c)).2.2
            rw [hs, hv] at h5
            rw [show (G now a * 250 + G now b) / 250 = G now a by omega, show (G now a * 250 + G now b) % 250 = G now b by omega] at h5
            exact absurd ⟨hta, htb, hga, hgb⟩ h5
        obtain ⟨hyN, c, d, hyt⟩ := b2 y (b1 y hyin)
        have hcd := hT.2.2.2.2.1 y c d hyN hyt
        have h3 := (b3 y c d (b1 y hyin) hyt hSy).2
        have htd : G now d < N := frI_lt hI hI.2.2.2.2.1 d (by omega)
        obtain ⟨t1, t2⟩ := sg_inj (by omega) (by omega) (hv.symm.trans (hs.symm.trans h3))
        refine expect_ok hpd he hx hyN (fun C' hp' f1 f2 f3 f4 f5 f6 => ?_)
        have hcgx : cg N tm (eqT (G now)) x y := ⟨a, b, c, d, hx, hyN, hxt, hyt, t1, t2⟩
        refine h1 C' (e + 1) _ _ ch sg hp' (fun j hj => by simp [Nat.ne_of_lt hj]) (Or.inr ⟨rfl, by simp, by simp [hxy], by simp only [if_true]; exact hcgx⟩) ?_ f5 f6
        have hmono : ∀ u w, Cl (rr N (G now) (Pn p1 p2 0 e)) u w → Cl (rr N (G now) (Pn (fun i => if i = e then x else p1 i) (fun i => if i = e then y else p2 i) 0 (e + 1))) u w := by
          intro u w hu
          refine Cl_mono (fun s t hst => Cl_sub ?_) hu
          rcases hst with h | ⟨j, j1, j2, j3, j4⟩
          · exact Or.inl h
          · refine Or.inr ⟨j, j1, by omega, ?_, ?_⟩
            · show s = if j = e then x else p1 j
              rw [if_neg (Nat.ne_of_lt j2)]; exact j3
            · show t = if j = e then y else p2 j
              rw [if_neg (Nat.ne_of_lt j2)]; exact j4
        have hnew : Cl (rr N (G now) (Pn (fun i => if i = e then x else p1 i) (fun i => if i = e then y else p2 i) 0 (e + 1))) x y := Cl_sub (Or.inr ⟨e, Nat.zero_le _, by omega, by simp, by simp⟩)
        have hSe : ∀ z, Stn C' z ↔ Stn C2 z := fun z => by unfold Stn; rw [f4]
        refine ⟨fun b hb => ?_, fun z hz => Or.inl (b1 z hz), fun z hz => ?_, fun z c2 d2 hz hzt hs2 => ?_, fun z hz hs2 => b4 z hz (fun q => hs2 ((hSe z).mpr q)), fun z hz => ?_, fun z w hz hw h1 h2 => b6 z w hz hw ((hSe z).mp h1) ((hSe w).mp h2), fun z c2 d2 hz hzt => ?_⟩
        · obtain ⟨r1, r2, r3⟩ := bA b hb
          rw [f1, f2, f3]
          exact ⟨r1, r2, r3⟩
        · rcases hz with h | h
          · exact b2 z h
          · subst h; exact ⟨hx, a, b, hxt⟩
        · rcases hz with h | h
          · exact b3 z c2 d2 h hzt ((hSe z).mp hs2)
          · subst h
            exact absurd hcgx (hns ((hSe z).mp hs2) y (b1 y hyin))
        · obtain ⟨r1, r2, r3⟩ := b5 z hz
          exact ⟨r1, fun q => r2 ((hSe z).mp q), r3⟩
        · by_cases cc : z = x
          · subst cc
            rw [hxt] at hzt
            cases hzt
            exact ⟨y, c, d, Or.inl hyin, hyN, hyt, hnew, t1, t2⟩
          · obtain ⟨w, c3, d3, hw, hwN, hwt, hR, r1, r2⟩ := b7 z c2 d2 (hz.resolve_right cc) hzt
            rcases hw with h | h
            · exact ⟨w, c3, d3, Or.inl h, hwN, hwt, hmono _ _ hR, r1, r2⟩
            · subst h
              rw [hxt] at hwt
              cases hwt
              exact ⟨y, c, d, Or.inl hyin, hyN, hyt, (Cl_eqv _).2.2 _ _ _ (hmono _ _ hR) hnew, r1.trans t1, r2.trans t2⟩
      · intro x15 e15
        refine hk _ _ _ ⟨rfl, i + 1, l, nI_1 i, by simp at hi; omega, by rw [e15]; exact hl2, fun z hz => hsub z (List.mem_cons_of_mem _ hz), fun z hz => ?_⟩ ?_
        · rcases hall z hz with h | h
          · rcases List.mem_cons.mp h with h | h
            · subst h; exact Or.inr hs
            · exact Or.inl h
          · exact Or.inr h
        · rw [nI_1, nI_clamp (by omega), nI_clamp (by omega)]
          omega
end PL

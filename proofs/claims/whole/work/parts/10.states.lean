abbrev vwCl : List vw_C := [(RX0, TX0, 9), (RX1, TX1, 7), (RX2, TX2, 3), (RX3, TX3, 5), (RX4, TX4, 13), (RX5, TX5, 13)]
/-! the states of the objects, loops as predicates -/
/-- the state of a SameTerms$Closure: expected, one, other, bucket, nextInBucket, sign, stands, loose, looseTotal -/
abbrev ClS : Type := Int32 × (Nat → Int32) × (Nat → Int32) × (Nat → Int32) × (Nat → Int32) × (Nat → Int32) × (Nat → Int32) × (Nat → Int32) × Int32
abbrev cl_expected (z : ClS) : Int32 := z.1
abbrev cl_one (z : ClS) : Nat → Int32 := z.2.1
abbrev cl_other (z : ClS) : Nat → Int32 := z.2.2.1
abbrev cl_bucket (z : ClS) : Nat → Int32 := z.2.2.2.1
abbrev cl_nextInBucket (z : ClS) : Nat → Int32 := z.2.2.2.2.1
abbrev cl_sign (z : ClS) : Nat → Int32 := z.2.2.2.2.2.1
abbrev cl_stands (z : ClS) : Nat → Int32 := z.2.2.2.2.2.2.1
abbrev cl_loose (z : ClS) : Nat → Int32 := z.2.2.2.2.2.2.2.1
abbrev cl_looseTotal (z : ClS) : Int32 := z.2.2.2.2.2.2.2.2
abbrev cl_s_expected (z : ClS) (v : Int32) : ClS := (v, z.2)
abbrev cl_s_one (z : ClS) (v : Nat → Int32) : ClS := (z.1, v, z.2.2)
abbrev cl_s_other (z : ClS) (v : Nat → Int32) : ClS := (z.1, z.2.1, v, z.2.2.2)
abbrev cl_s_bucket (z : ClS) (v : Nat → Int32) : ClS := (z.1, z.2.1, z.2.2.1, v, z.2.2.2.2)
abbrev cl_s_nextInBucket (z : ClS) (v : Nat → Int32) : ClS := (z.1, z.2.1, z.2.2.1, z.2.2.2.1, v, z.2.2.2.2.2)
abbrev cl_s_sign (z : ClS) (v : Nat → Int32) : ClS := (z.1, z.2.1, z.2.2.1, z.2.2.2.1, z.2.2.2.2.1, v, z.2.2.2.2.2.2)
abbrev cl_s_stands (z : ClS) (v : Nat → Int32) : ClS := (z.1, z.2.1, z.2.2.1, z.2.2.2.1, z.2.2.2.2.1, z.2.2.2.2.2.1, v, z.2.2.2.2.2.2.2)
abbrev cl_s_loose (z : ClS) (v : Nat → Int32) : ClS := (z.1, z.2.1, z.2.2.1, z.2.2.2.1, z.2.2.2.2.1, z.2.2.2.2.2.1, z.2.2.2.2.2.2.1, v, z.2.2.2.2.2.2.2.2)
abbrev cl_s_looseTotal (z : ClS) (v : Int32) : ClS := (z.1, z.2.1, z.2.2.1, z.2.2.2.1, z.2.2.2.2.1, z.2.2.2.2.2.1, z.2.2.2.2.2.2.1, z.2.2.2.2.2.2.2.1, v)
/-- the state of a SameTerms$Forest: members, lowest, nextMember, trees, latest, above, joined -/
abbrev FoS : Type := (Nat → Int32) × (Nat → Int32) × (Nat → Int32) × Int32 × Int32 × (Nat → Int32) × (Nat → Int32)
abbrev fo_members (z : FoS) : Nat → Int32 := z.1
abbrev fo_lowest (z : FoS) : Nat → Int32 := z.2.1
abbrev fo_nextMember (z : FoS) : Nat → Int32 := z.2.2.1
abbrev fo_trees (z : FoS) : Int32 := z.2.2.2.1
abbrev fo_latest (z : FoS) : Int32 := z.2.2.2.2.1
abbrev fo_above (z : FoS) : Nat → Int32 := z.2.2.2.2.2.1
abbrev fo_joined (z : FoS) : Nat → Int32 := z.2.2.2.2.2.2
abbrev fo_s_members (z : FoS) (v : Nat → Int32) : FoS := (v, z.2)
abbrev fo_s_lowest (z : FoS) (v : Nat → Int32) : FoS := (z.1, v, z.2.2)
abbrev fo_s_nextMember (z : FoS) (v : Nat → Int32) : FoS := (z.1, z.2.1, v, z.2.2.2)
abbrev fo_s_trees (z : FoS) (v : Int32) : FoS := (z.1, z.2.1, z.2.2.1, v, z.2.2.2.2)
abbrev fo_s_latest (z : FoS) (v : Int32) : FoS := (z.1, z.2.1, z.2.2.1, z.2.2.2.1, v, z.2.2.2.2.2)
abbrev fo_s_above (z : FoS) (v : Nat → Int32) : FoS := (z.1, z.2.1, z.2.2.1, z.2.2.2.1, z.2.2.2.2.1, v, z.2.2.2.2.2.2)
abbrev fo_s_joined (z : FoS) (v : Nat → Int32) : FoS := (z.1, z.2.1, z.2.2.1, z.2.2.2.1, z.2.2.2.2.1, z.2.2.2.2.2.1, v)
/-- the state of a SameTerms$Pairs: left, right, total -/
abbrev PaS : Type := (Nat → Int32) × (Nat → Int32) × Int32
abbrev pa_left (z : PaS) : Nat → Int32 := z.1
abbrev pa_right (z : PaS) : Nat → Int32 := z.2.1
abbrev pa_total (z : PaS) : Int32 := z.2.2
abbrev pa_s_left (z : PaS) (v : Nat → Int32) : PaS := (v, z.2)
abbrev pa_s_right (z : PaS) (v : Nat → Int32) : PaS := (z.1, v, z.2.2)
abbrev pa_s_total (z : PaS) (v : Int32) : PaS := (z.1, z.2.1, v)
/-- the state of a SameTerms$Terms: first, second, total, lastUse, useBefore -/
abbrev TeS : Type := (Nat → Int32) × (Nat → Int32) × Int32 × (Nat → Int32) × (Nat → Int32)
abbrev te_first (z : TeS) : Nat → Int32 := z.1
abbrev te_second (z : TeS) : Nat → Int32 := z.2.1
abbrev te_total (z : TeS) : Int32 := z.2.2.1
abbrev te_lastUse (z : TeS) : Nat → Int32 := z.2.2.2.1
abbrev te_useBefore (z : TeS) : Nat → Int32 := z.2.2.2.2
abbrev te_s_first (z : TeS) (v : Nat → Int32) : TeS := (v, z.2)
abbrev te_s_second (z : TeS) (v : Nat → Int32) : TeS := (z.1, v, z.2.2)
abbrev te_s_total (z : TeS) (v : Int32) : TeS := (z.1, z.2.1, v, z.2.2.2)
abbrev te_s_lastUse (z : TeS) (v : Nat → Int32) : TeS := (z.1, z.2.1, z.2.2.1, v, z.2.2.2.2)
abbrev te_s_useBefore (z : TeS) (v : Nat → Int32) : TeS := (z.1, z.2.1, z.2.2.1, z.2.2.2.1, v)
/-- the state of a SameTerms: byEquationsHolds, byRoundsHolds, reasonsHold, reasonsOne, reasonsOther, reasons -/
abbrev SaS : Type := Int32 × Int32 × Int32 × Int32 × Int32 × Int64
abbrev sa_byEquationsHolds (z : SaS) : Int32 := z.1
abbrev sa_byRoundsHolds (z : SaS) : Int32 := z.2.1
abbrev sa_reasonsHold (z : SaS) : Int32 := z.2.2.1
abbrev sa_reasonsOne (z : SaS) : Int32 := z.2.2.2.1
abbrev sa_reasonsOther (z : SaS) : Int32 := z.2.2.2.2.1
abbrev sa_reasons (z : SaS) : Int64 := z.2.2.2.2.2
abbrev sa_s_byEquationsHolds (z : SaS) (v : Int32) : SaS := (v, z.2)
abbrev sa_s_byRoundsHolds (z : SaS) (v : Int32) : SaS := (z.1, v, z.2.2)
abbrev sa_s_reasonsHold (z : SaS) (v : Int32) : SaS := (z.1, z.2.1, v, z.2.2.2)
abbrev sa_s_reasonsOne (z : SaS) (v : Int32) : SaS := (z.1, z.2.1, z.2.2.1, v, z.2.2.2.2)
abbrev sa_s_reasonsOther (z : SaS) (v : Int32) : SaS := (z.1, z.2.1, z.2.2.1, z.2.2.2.1, v, z.2.2.2.2.2)
abbrev sa_s_reasons (z : SaS) (v : Int64) : SaS := (z.1, z.2.1, z.2.2.1, z.2.2.2.1, z.2.2.2.2.1, v)
/-- the state of a SameTermsModel: terms, first, second, equations, left, right, differences, one, other, label, before, applications, applied -/
abbrev MoS : Type := Int32 × (Nat → Int32) × (Nat → Int32) × Int32 × (Nat → Int32) × (Nat → Int32) × Int32 × (Nat → Int32) × (Nat → Int32) × (Nat → Int32) × (Nat → Int32) × (Nat → Int32) × Int32
abbrev mo_terms (z : MoS) : Int32 := z.1
abbrev mo_first (z : MoS) : Nat → Int32 := z.2.1
abbrev mo_second (z : MoS) : Nat → Int32 := z.2.2.1
abbrev mo_equations (z : MoS) : Int32 := z.2.2.2.1
abbrev mo_left (z : MoS) : Nat → Int32 := z.2.2.2.2.1
abbrev mo_right (z : MoS) : Nat → Int32 := z.2.2.2.2.2.1
abbrev mo_differences (z : MoS) : Int32 := z.2.2.2.2.2.2.1
abbrev mo_one (z : MoS) : Nat → Int32 := z.2.2.2.2.2.2.2.1
abbrev mo_other (z : MoS) : Nat → Int32 := z.2.2.2.2.2.2.2.2.1
abbrev mo_label (z : MoS) : Nat → Int32 := z.2.2.2.2.2.2.2.2.2.1
abbrev mo_before (z : MoS) : Nat → Int32 := z.2.2.2.2.2.2.2.2.2.2.1
abbrev mo_applications (z : MoS) : Nat → Int32 := z.2.2.2.2.2.2.2.2.2.2.2.1
abbrev mo_applied (z : MoS) : Int32 := z.2.2.2.2.2.2.2.2.2.2.2.2
abbrev mo_s_terms (z : MoS) (v : Int32) : MoS := (v, z.2)
abbrev mo_s_first (z : MoS) (v : Nat → Int32) : MoS := (z.1, v, z.2.2)
abbrev mo_s_second (z : MoS) (v : Nat → Int32) : MoS := (z.1, z.2.1, v, z.2.2.2)
abbrev mo_s_equations (z : MoS) (v : Int32) : MoS := (z.1, z.2.1, z.2.2.1, v, z.2.2.2.2)
abbrev mo_s_left (z : MoS) (v : Nat → Int32) : MoS := (z.1, z.2.1, z.2.2.1, z.2.2.2.1, v, z.2.2.2.2.2)
abbrev mo_s_right (z : MoS) (v : Nat → Int32) : MoS := (z.1, z.2.1, z.2.2.1, z.2.2.2.1, z.2.2.2.2.1, v, z.2.2.2.2.2.2)
abbrev mo_s_differences (z : MoS) (v : Int32) : MoS := (z.1, z.2.1, z.2.2.1, z.2.2.2.1, z.2.2.2.2.1, z.2.2.2.2.2.1, v, z.2.2.2.2.2.2.2)
abbrev mo_s_one (z : MoS) (v : Nat → Int32) : MoS := (z.1, z.2.1, z.2.2.1, z.2.2.2.1, z.2.2.2.2.1, z.2.2.2.2.2.1, z.2.2.2.2.2.2.1, v, z.2.2.2.2.2.2.2.2)
abbrev mo_s_other (z : MoS) (v : Nat → Int32) : MoS := (z.1, z.2.1, z.2.2.1, z.2.2.2.1, z.2.2.2.2.1, z.2.2.2.2.2.1, z.2.2.2.2.2.2.1, z.2.2.2.2.2.2.2.1, v, z.2.2.2.2.2.2.2.2.2)
abbrev mo_s_label (z : MoS) (v : Nat → Int32) : MoS := (z.1, z.2.1, z.2.2.1, z.2.2.2.1, z.2.2.2.2.1, z.2.2.2.2.2.1, z.2.2.2.2.2.2.1, z.2.2.2.2.2.2.2.1, z.2.2.2.2.2.2.2.2.1, v, z.2.2.2.2.2.2.2.2.2.2)
abbrev mo_s_before (z : MoS) (v : Nat → Int32) : MoS := (z.1, z.2.1, z.2.2.1, z.2.2.2.1, z.2.2.2.2.1, z.2.2.2.2.2.1, z.2.2.2.2.2.2.1, z.2.2.2.2.2.2.2.1, z.2.2.2.2.2.2.2.2.1, z.2.2.2.2.2.2.2.2.2.1, v, z.2.2.2.2.2.2.2.2.2.2.2)
abbrev mo_s_applications (z : MoS) (v : Nat → Int32) : MoS := (z.1, z.2.1, z.2.2.1, z.2.2.2.1, z.2.2.2.2.1, z.2.2.2.2.2.1, z.2.2.2.2.2.2.1, z.2.2.2.2.2.2.2.1, z.2.2.2.2.2.2.2.2.1, z.2.2.2.2.2.2.2.2.2.1, z.2.2.2.2.2.2.2.2.2.2.1, v, z.2.2.2.2.2.2.2.2.2.2.2.2)
abbrev mo_s_applied (z : MoS) (v : Int32) : MoS := (z.1, z.2.1, z.2.2.1, z.2.2.2.1, z.2.2.2.2.1, z.2.2.2.2.2.1, z.2.2.2.2.2.2.1, z.2.2.2.2.2.2.2.1, z.2.2.2.2.2.2.2.2.1, z.2.2.2.2.2.2.2.2.2.1, z.2.2.2.2.2.2.2.2.2.2.1, z.2.2.2.2.2.2.2.2.2.2.2.1, v)
def wl1 {A1 : Type} (B : (A1 → Prop) → A1 → Prop) : Nat → A1 → Prop
  | 0 => fun _ => False
  | n + 1 => B (wl1 B n)
theorem wl1_ind {A1 : Type} {B : (A1 → Prop) → A1 → Prop} (I : A1 → Prop) (μ : A1 → Nat) (hs : ∀ (kb : A1 → Prop) (a1 : A1), I a1 → (∀ (b1 : A1), I b1 → μ b1 < μ a1 → kb b1) → B kb a1) (a1 : A1) (h : I a1) : ∃ n : Nat, wl1 B n a1 := by
  have key : ∀ (n : Nat) (a1 : A1), I a1 → μ a1 < n → wl1 B n a1 := by
    intro n
    induction n with
    | zero => intro _ _ h; exact absurd h (Nat.not_lt_zero _)
    | succ n ih => intro a1 hI hn; exact hs (wl1 B n) a1 hI (fun b1 hb hm => ih b1 hb (by omega))
  exact ⟨μ a1 + 1, key _ _ h (Nat.lt_succ_self _)⟩
def wl2 {A1 A2 : Type} (B : (A1 → A2 → Prop) → A1 → A2 → Prop) : Nat → A1 → A2 → Prop
  | 0 => fun _ _ => False
  | n + 1 => B (wl2 B n)
theorem wl2_ind {A1 A2 : Type} {B : (A1 → A2 → Prop) → A1 → A2 → Prop} (I : A1 → A2 → Prop) (μ : A1 → A2 → Nat) (hs : ∀ (kb : A1 → A2 → Prop) (a1 : A1) (a2 : A2), I a1 a2 → (∀ (b1 : A1) (b2 : A2), I b1 b2 → μ b1 b2 < μ a1 a2 → kb b1 b2) → B kb a1 a2) (a1 : A1) (a2 : A2) (h : I a1 a2) : ∃ n : Nat, wl2 B n a1 a2 := by
  have key : ∀ (n : Nat) (a1 : A1) (a2 : A2), I a1 a2 → μ a1 a2 < n → wl2 B n a1 a2 := by
    intro n
    induction n with
    | zero => intro _ _ _ h; exact absurd h (Nat.not_lt_zero _)
    | succ n ih => intro a1 a2 hI hn; exact hs (wl2 B n) a1 a2 hI (fun b1 b2 hb hm => ih b1 b2 hb (by omega))
  exact ⟨μ a1 a2 + 1, key _ _ _ h (Nat.lt_succ_self _)⟩
def wl3 {A1 A2 A3 : Type} (B : (A1 → A2 → A3 → Prop) → A1 → A2 → A3 → Prop) : Nat → A1 → A2 → A3 → Prop
  | 0 => fun _ _ _ => False
  | n + 1 => B (wl3 B n)
theorem wl3_ind {A1 A2 A3 : Type} {B : (A1 → A2 → A3 → Prop) → A1 → A2 → A3 → Prop} (I : A1 → A2 → A3 → Prop) (μ : A1 → A2 → A3 → Nat) (hs : ∀ (kb : A1 → A2 → A3 → Prop) (a1 : A1) (a2 : A2) (a3 : A3), I a1 a2 a3 → (∀ (b1 : A1) (b2 : A2) (b3 : A3), I b1 b2 b3 → μ b1 b2 b3 < μ a1 a2 a3 → kb b1 b2 b3) → B kb a1 a2 a3) (a1 : A1) (a2 : A2) (a3 : A3) (h : I a1 a2 a3) : ∃ n : Nat, wl3 B n a1 a2 a3 := by
  have key : ∀ (n : Nat) (a1 : A1) (a2 : A2) (a3 : A3), I a1 a2 a3 → μ a1 a2 a3 < n → wl3 B n a1 a2 a3 := by
    intro n
    induction n with
    | zero => intro _ _ _ _ h; exact absurd h (Nat.not_lt_zero _)
    | succ n ih => intro a1 a2 a3 hI hn; exact hs (wl3 B n) a1 a2 a3 hI (fun b1 b2 b3 hb hm => ih b1 b2 b3 hb (by omega))
  exact ⟨μ a1 a2 a3 + 1, key _ _ _ _ h (Nat.lt_succ_self _)⟩
def wl4 {A1 A2 A3 A4 : Type} (B : (A1 → A2 → A3 → A4 → Prop) → A1 → A2 → A3 → A4 → Prop) : Nat → A1 → A2 → A3 → A4 → Prop
  | 0 => fun _ _ _ _ => False
  | n + 1 => B (wl4 B n)
theorem wl4_ind {A1 A2 A3 A4 : Type} {B : (A1 → A2 → A3 → A4 → Prop) → A1 → A2 → A3 → A4 → Prop} (I : A1 → A2 → A3 → A4 → Prop) (μ : A1 → A2 → A3 → A4 → Nat) (hs : ∀ (kb : A1 → A2 → A3 → A4 → Prop) (a1 : A1) (a2 : A2) (a3 : A3) (a4 : A4), I a1 a2 a3 a4 → (∀ (b1 : A1) (b2 : A2) (b3 : A3) (b4 : A4), I b1 b2 b3 b4 → μ b1 b2 b3 b4 < μ a1 a2 a3 a4 → kb b1 b2 b3 b4) → B kb a1 a2 a3 a4) (a1 : A1) (a2 : A2) (a3 : A3) (a4 : A4) (h : I a1 a2 a3 a4) : ∃ n : Nat, wl4 B n a1 a2 a3 a4 := by
  have key : ∀ (n : Nat) (a1 : A1) (a2 : A2) (a3 : A3) (a4 : A4), I a1 a2 a3 a4 → μ a1 a2 a3 a4 < n → wl4 B n a1 a2 a3 a4 := by
    intro n
    induction n with
    | zero => intro _ _ _ _ _ h; exact absurd h (Nat.not_lt_zero _)
    | succ n ih => intro a1 a2 a3 a4 hI hn; exact hs (wl4 B n) a1 a2 a3 a4 hI (fun b1 b2 b3 b4 hb hm => ih b1 b2 b3 b4 hb (by omega))
  exact ⟨μ a1 a2 a3 a4 + 1, key _ _ _ _ _ h (Nat.lt_succ_self _)⟩
def wl5 {A1 A2 A3 A4 A5 : Type} (B : (A1 → A2 → A3 → A4 → A5 → Prop) → A1 → A2 → A3 → A4 → A5 → Prop) : Nat → A1 → A2 → A3 → A4 → A5 → Prop
  | 0 => fun _ _ _ _ _ => False
  | n + 1 => B (wl5 B n)
theorem wl5_ind {A1 A2 A3 A4 A5 : Type} {B : (A1 → A2 → A3 → A4 → A5 → Prop) → A1 → A2 → A3 → A4 → A5 → Prop} (I : A1 → A2 → A3 → A4 → A5 → Prop) (μ : A1 → A2 → A3 → A4 → A5 → Nat) (hs : ∀ (kb : A1 → A2 → A3 → A4 → A5 → Prop) (a1 : A1) (a2 : A2) (a3 : A3) (a4 : A4) (a5 : A5), I a1 a2 a3 a4 a5 → (∀ (b1 : A1) (b2 : A2) (b3 : A3) (b4 : A4) (b5 : A5), I b1 b2 b3 b4 b5 → μ b1 b2 b3 b4 b5 < μ a1 a2 a3 a4 a5 → kb b1 b2 b3 b4 b5) → B kb a1 a2 a3 a4 a5) (a1 : A1) (a2 : A2) (a3 : A3) (a4 : A4) (a5 : A5) (h : I a1 a2 a3 a4 a5) : ∃ n : Nat, wl5 B n a1 a2 a3 a4 a5 := by
  have key : ∀ (n : Nat) (a1 : A1) (a2 : A2) (a3 : A3) (a4 : A4) (a5 : A5), I a1 a2 a3 a4 a5 → μ a1 a2 a3 a4 a5 < n → wl5 B n a1 a2 a3 a4 a5 := by
    intro n
    induction n with
    | zero => intro _ _ _ _ _ _ h; exact absurd h (Nat.not_lt_zero _)
    | succ n ih => intro a1 a2 a3 a4 a5 hI hn; exact hs (wl5 B n) a1 a2 a3 a4 a5 hI (fun b1 b2 b3 b4 b5 hb hm => ih b1 b2 b3 b4 b5 hb (by omega))
  exact ⟨μ a1 a2 a3 a4 a5 + 1, key _ _ _ _ _ _ h (Nat.lt_succ_self _)⟩
def wl6 {A1 A2 A3 A4 A5 A6 : Type} (B : (A1 → A2 → A3 → A4 → A5 → A6 → Prop) → A1 → A2 → A3 → A4 → A5 → A6 → Prop) : Nat → A1 → A2 → A3 → A4 → A5 → A6 → Prop
  | 0 => fun _ _ _ _ _ _ => False
  | n + 1 => B (wl6 B n)
theorem wl6_ind {A1 A2 A3 A4 A5 A6 : Type} {B : (A1 → A2 → A3 → A4 → A5 → A6 → Prop) → A1 → A2 → A3 → A4 → A5 → A6 → Prop} (I : A1 → A2 → A3 → A4 → A5 → A6 → Prop) (μ : A1 → A2 → A3 → A4 → A5 → A6 → Nat) (hs : ∀ (kb : A1 → A2 → A3 → A4 → A5 → A6 → Prop) (a1 : A1) (a2 : A2) (a3 : A3) (a4 : A4) (a5 : A5) (a6 : A6), I a1 a2 a3 a4 a5 a6 → (∀ (b1 : A1) (b2 : A2) (b3 : A3) (b4 : A4) (b5 : A5) (b6 : A6), I b1 b2 b3 b4 b5 b6 → μ b1 b2 b3 b4 b5 b6 < μ a1 a2 a3 a4 a5 a6 → kb b1 b2 b3 b4 b5 b6) → B kb a1 a2 a3 a4 a5 a6) (a1 : A1) (a2 : A2) (a3 : A3) (a4 : A4) (a5 : A5) (a6 : A6) (h : I a1 a2 a3 a4 a5 a6) : ∃ n : Nat, wl6 B n a1 a2 a3 a4 a5 a6 := by
  have key : ∀ (n : Nat) (a1 : A1) (a2 : A2) (a3 : A3) (a4 : A4) (a5 : A5) (a6 : A6), I a1 a2 a3 a4 a5 a6 → μ a1 a2 a3 a4 a5 a6 < n → wl6 B n a1 a2 a3 a4 a5 a6 := by
    intro n
    induction n with
    | zero => intro _ _ _ _ _ _ _ h; exact absurd h (Nat.not_lt_zero _)
    | succ n ih => intro a1 a2 a3 a4 a5 a6 hI hn; exact hs (wl6 B n) a1 a2 a3 a4 a5 a6 hI (fun b1 b2 b3 b4 b5 b6 hb hm => ih b1 b2 b3 b4 b5 b6 hb (by omega))
  exact ⟨μ a1 a2 a3 a4 a5 a6 + 1, key _ _ _ _ _ _ _ h (Nat.lt_succ_self _)⟩
def wl7 {A1 A2 A3 A4 A5 A6 A7 : Type} (B : (A1 → A2 → A3 → A4 → A5 → A6 → A7 → Prop) → A1 → A2 → A3 → A4 → A5 → A6 → A7 → Prop) : Nat → A1 → A2 → A3 → A4 → A5 → A6 → A7 → Prop
  | 0 => fun _ _ _ _ _ _ _ => False
  | n + 1 => B (wl7 B n)
theorem wl7_ind {A1 A2 A3 A4 A5 A6 A7 : Type} {B : (A1 → A2 → A3 → A4 → A5 → A6 → A7 → Prop) → A1 → A2 → A3 → A4 → A5 → A6 → A7 → Prop} (I : A1 → A2 → A3 → A4 → A5 → A6 → A7 → Prop) (μ : A1 → A2 → A3 → A4 → A5 → A6 → A7 → Nat) (hs : ∀ (kb : A1 → A2 → A3 → A4 → A5 → A6 → A7 → Prop) (a1 : A1) (a2 : A2) (a3 : A3) (a4 : A4) (a5 : A5) (a6 : A6) (a7 : A7), I a1 a2 a3 a4 a5 a6 a7 → (∀ (b1 : A1) (b2 : A2) (b3 : A3) (b4 : A4) (b5 : A5) (b6 : A6) (b7 : A7), I b1 b2 b3 b4 b5 b6 b7 → μ b1 b2 b3 b4 b5 b6 b7 < μ a1 a2 a3 a4 a5 a6 a7 → kb b1 b2 b3 b4 b5 b6 b7) → B kb a1 a2 a3 a4 a5 a6 a7) (a1 : A1) (a2 : A2) (a3 : A3) (a4 : A4) (a5 : A5) (a6 : A6) (a7 : A7) (h : I a1 a2 a3 a4 a5 a6 a7) : ∃ n : Nat, wl7 B n a1 a2 a3 a4 a5 a6 a7 := by
  have key : ∀ (n : Nat) (a1 : A1) (a2 : A2) (a3 : A3) (a4 : A4) (a5 : A5) (a6 : A6) (a7 : A7), I a1 a2 a3 a4 a5 a6 a7 → μ a1 a2 a3 a4 a5 a6 a7 < n → wl7 B n a1 a2 a3 a4 a5 a6 a7 := by
    intro n
    induction n with
    | zero => intro _ _ _ _ _ _ _ _ h; exact absurd h (Nat.not_lt_zero _)
    | succ n ih => intro a1 a2 a3 a4 a5 a6 a7 hI hn; exact hs (wl7 B n) a1 a2 a3 a4 a5 a6 a7 hI (fun b1 b2 b3 b4 b5 b6 b7 hb hm => ih b1 b2 b3 b4 b5 b6 b7 hb (by omega))
  exact ⟨μ a1 a2 a3 a4 a5 a6 a7 + 1, key _ _ _ _ _ _ _ _ h (Nat.lt_succ_self _)⟩
def wl8 {A1 A2 A3 A4 A5 A6 A7 A8 : Type} (B : (A1 → A2 → A3 → A4 → A5 → A6 → A7 → A8 → Prop) → A1 → A2 → A3 → A4 → A5 → A6 → A7 → A8 → Prop) : Nat → A1 → A2 → A3 → A4 → A5 → A6 → A7 → A8 → Prop
  | 0 => fun _ _ _ _ _ _ _ _ => False
  | n + 1 => B (wl8 B n)
theorem wl8_ind {A1 A2 A3 A4 A5 A6 A7 A8 : Type} {B : (A1 → A2 → A3 → A4 → A5 → A6 → A7 → A8 → Prop) → A1 → A2 → A3 → A4 → A5 → A6 → A7 → A8 → Prop} (I : A1 → A2 → A3 → A4 → A5 → A6 → A7 → A8 → Prop) (μ : A1 → A2 → A3 → A4 → A5 → A6 → A7 → A8 → Nat) (hs : ∀ (kb : A1 → A2 → A3 → A4 → A5 → A6 → A7 → A8 → Prop) (a1 : A1) (a2 : A2) (a3 : A3) (a4 : A4) (a5 : A5) (a6 : A6) (a7 : A7) (a8 : A8), I a1 a2 a3 a4 a5 a6 a7 a8 → (∀ (b1 : A1) (b2 : A2) (b3 : A3) (b4 : A4) (b5 : A5) (b6 : A6) (b7 : A7) (b8 : A8), I b1 b2 b3 b4 b5 b6 b7 b8 → μ b1 b2 b3 b4 b5 b6 b7 b8 < μ a1 a2 a3 a4 a5 a6 a7 a8 → kb b1 b2 b3 b4 b5 b6 b7 b8) → B kb a1 a2 a3 a4 a5 a6 a7 a8) (a1 : A1) (a2 : A2) (a3 : A3) (a4 : A4) (a5 : A5) (a6 : A6) (a7 : A7) (a8 : A8) (h : I a1 a2 a3 a4 a5 a6 a7 a8) : ∃ n : Nat, wl8 B n a1 a2 a3 a4 a5 a6 a7 a8 := by
  have key : ∀ (n : Nat) (a1 : A1) (a2 : A2) (a3 : A3) (a4 : A4) (a5 : A5) (a6 : A6) (a7 : A7) (a8 : A8), I a1 a2 a3 a4 a5 a6 a7 a8 → μ a1 a2 a3 a4 a5 a6 a7 a8 < n → wl8 B n a1 a2 a3 a4 a5 a6 a7 a8 := by
    intro n
    induction n with
    | zero => intro _ _ _ _ _ _ _ _ _ h; exact absurd h (Nat.not_lt_zero _)
    | succ n ih => intro a1 a2 a3 a4 a5 a6 a7 a8 hI hn; exact hs (wl8 B n) a1 a2 a3 a4 a5 a6 a7 a8 hI (fun b1 b2 b3 b4 b5 b6 b7 b8 hb hm => ih b1 b2 b3 b4 b5 b6 b7 b8 hb (by omega))
  exact ⟨μ a1 a2 a3 a4 a5 a6 a7 a8 + 1, key _ _ _ _ _ _ _ _ _ h (Nat.lt_succ_self _)⟩

section WG
variable {p : Program} {l : Launch} {e : Env} {R : Room} {s : State} {m : MethodId} {args : Array Value} {below : List Frame} {meth : Method} {c : Code} {H : Heap} {locs : List Loc} {cells slots : Nat} {Q : State → Prop} {g : JFrame}
theorem w_goal (k : ∀ G : Heap → List Loc → JFrame → Prop, (∀ H' locs' g', W p l e R s m args below meth c H' locs' cells slots Q g' → G H' locs' g') → (∀ H' locs' g', G H' locs' g' → W p l e R s m args below meth c H' locs' cells slots Q g') → G H locs g) : W p l e R s m args below meth c H locs cells slots Q g := k (fun H' locs' g' => W p l e R s m args below meth c H' locs' cells slots Q g') (fun _ _ _ h => h) (fun _ _ _ h => h)
theorem w_start {H2 : Heap} {locs2 : List Loc} (h1 : H2 = H) (h2 : locs2 = locs) (k : W p l e R s m args below meth c H2 locs2 cells slots Q g) : W p l e R s m args below meth c H locs cells slots Q g := by
  subst h1; subst h2; exact k
end WG

/-! PURE: clear, constant, apply, equate, back, differ -/
def tmx (tm : Nat → Option (Nat × Nat)) (N : Nat) (o : Option (Nat × Nat)) : Nat → Option (Nat × Nat) := fun j => if j = N then o else tm j
theorem tmx_new {tm : Nat → Option (Nat × Nat)} {N : Nat} {o : Option (Nat × Nat)} {j : Nat} (h : j = N) : tmx tm N o j = o := if_pos h
theorem tmx_old {tm : Nat → Option (Nat × Nat)} {N : Nat} {o : Option (Nat × Nat)} {j : Nat} (h : ¬ j = N) : tmx tm N o j = tm j := if_neg h
section C1
variable {S : SaS} {T : TeS} {Q D : PaS} {C : ClS} {E R Y : FoS} {M : MoS} {N : Nat} {tm : Nat → Option (Nat × Nat)} {n : Nat} {l r : Nat → Nat} {dn : Nat} {dl dr : Nat → Nat} {An : Nat} {ap : Nat → Nat}
theorem L_clear (h : Sys S T Q D E R M) {K : SaS → TeS → PaS → PaS → MoS → Prop} {Z : Prop} (hK : ∀ S' T' Q' D' M', Sys S' T' Q' D' E R M' → K S' T' Q' D' M') : wp_X4_clear S T Q D (fun r3 S4 T5 Q6 D7 => wp_X5_clear M (fun r8 M9 => ((r3 = r8 → K S4 T5 Q6 D7 M9) ∧ (¬ r3 = r8 → Z)))) := by
  obtain ⟨N, tm, n, l, r, dn, dl, dr, An, ap, hT, hQ, hD, hM, hS⟩ := h
  unfold wp_X4_clear
  intro x1 e1
  unfold wp_X4_forget
  show wp_X5_clear M _
  unfold wp_X5_clear
  intro x2 e2
  refine ⟨fun _ => hK _ _ _ _ _ ?_, fun z => absurd (by rw [e1, e2, hT.1, hM.1]) z⟩
  have nl : ∀ j : Nat, ¬ j < 0 := Nat.not_lt_zero
  refine ⟨0, tm, 0, l, r, 0, dl, dr, 0, ap, ⟨rfl, by omega, fun j hj => absurd hj (nl j), fun j hj => absurd hj (nl j), fun j _ _ hj => absurd hj (nl j), fun i _ _ hi => absurd hi (nl i), fun p hp => absurd hp (nl p), fun h _ hh => absurd hh (nl h)⟩, ⟨rfl, by omega, fun j hj => absurd hj (nl j)⟩, ⟨rfl, by omega, fun j hj => absurd hj (nl j)⟩, ⟨rfl, by omega, fun j hj => absurd hj (nl j), rfl, by omega, fun j hj => absurd hj (nl j), rfl, by omega, fun j hj => absurd hj (nl j), rfl, by omega, fun j hj => absurd hj (nl j), fun j _ _ hj => absurd hj (nl j), fun j _ _ hj => absurd hj (nl j)⟩, SaI_forget E R⟩
theorem pt_old {o : Option (Nat × Nat)} {h : Nat} (hh : h < 2 * N) : pt (tmx tm N o) h = pt tm h := by
  unfold pt
  rw [tmx_old (by omega)]
theorem isgu_old {o : Option (Nat × Nat)} {p b : Nat} {u : Option Nat} (hb : b ≤ 2 * N) (h : isgu tm p b u) : isgu (tmx tm N o) p b u :=
  ⟨fun w hw => ⟨(h.1 w hw).1, by rw [pt_old (by have := (h.1 w hw).1; omega)]; exact (h.1 w hw).2⟩, fun q hq hp => h.2 q hq (by rw [pt_old (by omega)] at hp; exact hp)⟩
/-- a constant more -/
theorem teA_const (hT : teA N tm T) (hN : N < 250) {T' : TeS} (ht : te_total T' = nI (N + 1)) (hf : te_first T' = upd (te_first T) N (-1)) (hs : te_second T' = upd (te_second T) N (-1)) (hl : te_lastUse T' = upd (te_lastUse T) N (-1)) (hu : te_useBefore T' = te_useBefore T) : teA (N + 1) (tmx tm N none) T' := by
  obtain ⟨t1, t2, t3, t4, t5, t6, t7, t8⟩ := hT
  have hpt : ∀ h p, h < 2 * (N + 1) → pt (tmx tm N none) h = some p → h < 2 * N ∧ pt tm h = some p := by
    intro h p hh hp
    by_cases c : h < 2 * N
    · rw [pt_old c] at hp; exact ⟨c, hp⟩
    · unfold pt at hp
      rw [tmx_new (by omega)] at hp
      cases hp
  refine ⟨ht, by omega, fun j hj => ?_, fun j hj => ?_, fun j a b hj hja => ?_, fun i j q hi hj h1 h2 => ?_, fun p hp => ?_, fun h p hh hp => ?_⟩
  · rw [hf]
    by_cases c : j = N
    · subst c; rw [pk_us, tmx_new rfl]; rfl
    · rw [pk_un c, tmx_old c]; exact t3 j (by omega)
  · rw [hs]
    by_cases c : j = N
    · subst c; rw [pk_us, tmx_new rfl]; rfl
    · rw [pk_un c, tmx_old c]; exact t4 j (by omega)
  · by_cases c : j = N
    · rw [tmx_new c] at hja; cases hja
    · rw [tmx_old c] at hja; exact t5 j a b (by omega) hja
  · by_cases c : i = N
    · rw [tmx_new c] at h1; cases h1
    · by_cases c2 : j = N
      · rw [tmx_new c2] at h2; cases h2
      · rw [tmx_old c] at h1; rw [tmx_old c2] at h2
        exact t6 i j q (by omega) (by omega) h1 h2
  · rw [hl]
    by_cases c : p = N
    · subst c
      rw [pk_us]
      refine ⟨none, rfl, (fun u hu => by cases hu), fun h hh hp2 => ?_⟩
      obtain ⟨q1, q2⟩ := hpt h p hh hp2
      obtain ⟨a, b, q3, q4⟩ := pt_cases q2
      have := t5 (h / 2) a b (by omega) q3
      omega
    · rw [pk_un c]
      obtain ⟨o, o1, o2⟩ := t7 p (by omega)
      refine ⟨o, o1, fun u hu => ?_, fun h hh hp2 => ?_⟩
      · have q := o2.1 u hu
        exact ⟨by omega, by rw [pt_old q.1]; exact q.2⟩
      · obtain ⟨q1, q2⟩ := hpt h p hh hp2
        exact o2.2 h q1 q2
  · rw [hu]
    obtain ⟨q1, q2⟩ := hpt h p hh hp
    obtain ⟨o, o1, o2⟩ := t8 h p q1 q2
    exact ⟨o, o1, isgu_old (by omega) o2⟩
/-- an application more -/
theorem teA_app (hT : teA N tm T) (hN : N < 250) {a b : Nat} (ha : a < N) (hb : b < N) (hnew : ∀ j, j < N → tm j ≠ some (a, b)) {T' : TeS} (ht : te_total T' = nI (N + 1)) (hf : te_first T' = upd (te_first T) N (nI a)) (hs : te_second T' = upd (te_second T) N (nI b))
    (hl : te_lastUse T' = upd (upd (upd (te_lastUse T) N (-1)) a (nI (2 * N))) b (nI (2 * N + 1))) (hu : te_useBefore T' = upd (upd (te_useBefore T) (2 * N) (upd (te_lastUse T) N (-1) a)) (2 * N + 1) (upd (upd (te_lastUse T) N (-1)) a (nI (2 * N)) b)) : teA (N + 1) (tmx tm N (some (a, b))) T' := by
  obtain ⟨t1, t2, t3, t4, t5, t6, t7, t8⟩ := hT
  have htmN : (tmx tm N (some (a, b))) N = some (a, b) := tmx_new rfl
  have pA : pt (tmx tm N (some (a, b))) (2 * N) = some a := pt_fst htmN
  have pB : pt (tmx tm N (some (a, b))) (2 * N + 1) = some b := pt_snd htmN
  have oldpt : ∀ h p, h < 2 * N → pt (tmx tm N (some (a, b))) h = some p → p < N := by
    intro h p hh hp
    rw [pt_old hh] at hp
    obtain ⟨a', b', q3, q4⟩ := pt_cases hp
    have := t5 (h / 2) a' b' (by omega) q3
    omega
  refine ⟨ht, by omega, fun j hj => ?_, fun j hj => ?_, fun j a' b' hj hja => ?_, fun i j q hi hj h1 h2 => ?_, fun p hp => ?_, fun h p hh hp => ?_⟩
  · rw [hf]
    by_cases c : j = N
    · subst c; rw [pk_us, tmx_new rfl]; rfl
    · rw [pk_un c, tmx_old c]; exact t3 j (by omega)
  · rw [hs]
    by_cases c : j = N
    · subst c; rw [pk_us, tmx_new rfl]; rfl
    · rw [pk_un c, tmx_old c]; exact t4 j (by omega)
  · by_cases c : j = N
    · rw [tmx_new c] at hja; cases hja; omega
    · rw [tmx_old c] at hja; exact t5 j a' b' (by omega) hja
  · by_cases c : i = N
    · by_cases c2 : j = N
      · omega
      · rw [tmx_new c] at h1; rw [tmx_old c2] at h2
        rw [← h1] at h2
        exact absurd h2 (hnew j (by omega))
    · by_cases c2 : j = N
      · rw [tmx_old c] at h1; rw [tmx_new c2] at h2
        rw [← h2] at h1
        exact absurd h1 (hnew i (by omega))
      · rw [tmx_old c] at h1; rw [tmx_old c2] at h2
        exact t6 i j q (by omega) (by omega) h1 h2
  · rw [hl]
    by_cases cb : p = b
    · subst cb
      rw [pk_us]
      exact ⟨some (2 * N + 1), rfl, fun u hu => by cases hu; exact ⟨by omega, pB⟩, fun h hh _ => ⟨_, rfl, by omega⟩⟩
    · rw [pk_un cb]
      by_cases ca : p = a
      · subst ca
        rw [pk_us]
        refine ⟨some (2 * N), rfl, fun u hu => by cases hu; exact ⟨by omega, pA⟩, fun h hh hp2 => ⟨_, rfl, ?_⟩⟩
        by_cases c : h = 2 * N + 1
        · rw [c, pB] at hp2; exact absurd (Option.some.inj hp2).symm cb
        · omega
      · rw [pk_un ca]
        by_cases c : p = N
        · subst c
          rw [pk_us]
          refine ⟨none, rfl, (fun u hu => by cases hu), fun h hh hp2 => ?_⟩
          by_cases c1 : h < 2 * p
          · have := oldpt h p c1 hp2; omega
          · by_cases c2 : h = 2 * p
            · rw [c2, pA] at hp2; exact absurd (Option.some.inj hp2).symm ca
            · rw [show h = 2 * p + 1 by omega, pB] at hp2; exact absurd (Option.some.inj hp2).symm cb
        · rw [pk_un c]
          obtain ⟨o, o1, o2⟩ := t7 p (by omega)
          refine ⟨o, o1, fun u hu => ?_, fun h hh hp2 => ?_⟩
          · have q := o2.1 u hu
            exact ⟨by omega, by rw [pt_old q.1]; exact q.2⟩
          · by_cases c1 : h < 2 * N
            · rw [pt_old c1] at hp2; exact o2.2 h c1 hp2
            · by_cases c2 : h = 2 * N
              · rw [c2, pA] at hp2; exact absurd (Option.some.inj hp2).symm ca
              · rw [show h = 2 * N + 1 by omega, pB] at hp2; exact absurd (Option.some.inj hp2).symm cb
  · rw [hu]
    by_cases c1 : h < 2 * N
    · rw [pk_un (by omega), pk_un (by omega)]
      rw [pt_old c1] at hp
      obtain ⟨o, o1, o2⟩ := t8 h p c1 hp
      exact ⟨o, o1, isgu_old (by omega) o2⟩
    · by_cases c2 : h = 2 * N
      · subst c2
        rw [pA] at hp
        cases hp
        rw [pk_un (by omega), pk_us, pk_un (by omega)]
        obtain ⟨o, o1, o2⟩ := t7 a ha
        exact ⟨o, o1, isgu_old (by omega) o2⟩
      · have e : h = 2 * N + 1 := by omega
        subst e
        rw [pB] at hp
        cases hp
        rw [pk_us]
        by_cases c3 : b = a
        · subst c3
          rw [pk_us]
          exact ⟨some (2 * N), rfl, fun u hu => by cases hu; exact ⟨by omega, pA⟩, fun h hh _ => ⟨_, rfl, by omega⟩⟩
        · rw [pk_un c3, pk_un (by omega)]
          obtain ⟨o, o1, o2⟩ := t7 b hb
          refine ⟨o, o1, fun u hu => ?_, fun h hh hp2 => ?_⟩
          · have q := o2.1 u hu
            exact ⟨by omega, by rw [pt_old q.1]; exact q.2⟩
          · by_cases c1 : h < 2 * N
            · rw [pt_old c1] at hp2; exact o2.2 h c1 hp2
            · rw [show h = 2 * N by omega, pA] at hp2
              exact absurd (Option.some.inj hp2).symm c3
end C1

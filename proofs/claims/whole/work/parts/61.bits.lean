/-! PURE: bits of a long (the rows b6_ began as rows of kit/laws/BITS) -/
def bt64 (x : Int64) (k : Nat) : Bool := x.toBitVec.getLsbD k
theorem b6_tb (n : Nat) : (lN n).toBitVec = BitVec.ofNat 64 n := rfl
theorem b6_inj {a b : Int64} (h : a.toBitVec = b.toBitVec) : a = b := Int64.toBitVec_inj.mp h
theorem b6_c : ∀ k, k < 64 → ((nI k).toInt64 &&& 63) = lN k := by decide +kernel
theorem b6_cu : ∀ k, k < 64 → ((nI k).toInt64.toUInt64 &&& Int64.toUInt64 63) = UInt64.ofNat k := by decide +kernel
theorem b6_sm : ∀ k, k < 64 → (BitVec.ofNat 64 k).smod 64 = BitVec.ofNat 64 k := by decide +kernel
theorem b6_u {n : Nat} (h : n < 2 ^ 64) : (UInt64.ofNat n).toNat = n := Nat.mod_eq_of_lt h
theorem b6_and1 (y : BitVec 64) : y &&& 1#64 = 0#64 ↔ y.getLsbD 0 = false := by
  constructor
  · intro h
    have t := congrArg (fun x => x.getLsbD 0) h
    simpa using t
  · intro h
    apply BitVec.eq_of_getLsbD_eq
    intro i hi
    rw [BitVec.getLsbD_and]
    cases i with
    | zero => rw [h]; simp
    | succ i => simp
theorem b6_and1' (y : BitVec 64) : y &&& 1#64 = 1#64 ↔ y.getLsbD 0 = true := by
  constructor
  · intro h
    have t := congrArg (fun x => x.getLsbD 0) h
    simpa using t
  · intro h
    apply BitVec.eq_of_getLsbD_eq
    intro i hi
    rw [BitVec.getLsbD_and]
    cases i with
    | zero => rw [h]; simp
    | succ i => simp
theorem b6_ush {x : Int64} {k : Nat} (hk : k < 64) : ((x.toUInt64 >>> ((nI k).toInt64.toUInt64 &&& Int64.toUInt64 63)).toInt64).toBitVec = x.toBitVec >>> k := by
  rw [b6_cu k hk]
  apply BitVec.eq_of_toNat_eq
  show (x.toUInt64 >>> UInt64.ofNat k).toNat = _
  rw [UInt64.toNat_shiftRight, b6_u (by omega), Nat.mod_eq_of_lt hk, BitVec.toNat_ushiftRight]
  rfl
theorem b6_lushr {x : Int64} {k : Nat} (hk : k < 64) : lg_cmp (((x.toUInt64 >>> ((nI k).toInt64.toUInt64 &&& Int64.toUInt64 63)).toInt64) &&& (1 : Int64)) (0 : Int64) = (0 : Int32) ↔ bt64 x k = false := by
  rw [lg_cmp_eq, ← Int64.toBitVec_inj, Int64.toBitVec_and, b6_ush hk]
  show x.toBitVec >>> k &&& 1#64 = 0#64 ↔ _
  rw [b6_and1]
  unfold bt64
  simp
theorem b6_ssh {x : Int64} {k : Nat} (hk : k < 64) : (x >>> ((nI k).toInt64 &&& 63)).toBitVec = x.toBitVec.sshiftRight k := by
  rw [b6_c k hk]
  show (x >>> lN k).toBitVec = _
  rw [Int64.toBitVec_shiftRight, b6_tb, b6_sm k hk]
  show x.toBitVec.sshiftRight (BitVec.ofNat 64 k).toNat = _
  congr 1
  rw [BitVec.toNat_ofNat]
  omega
theorem b6_lshr {x : Int64} {k : Nat} (hk : k < 64) : lg_cmp ((x >>> ((nI k).toInt64 &&& 63)) &&& (1 : Int64)) (1 : Int64) = (0 : Int32) ↔ bt64 x k = true := by
  rw [lg_cmp_eq, ← Int64.toBitVec_inj, Int64.toBitVec_and, b6_ssh hk]
  show x.toBitVec.sshiftRight k &&& 1#64 = 1#64 ↔ _
  rw [b6_and1']
  unfold bt64
  rw [BitVec.getLsbD_sshiftRight]
  simp [hk]
theorem b6_shl1 : ∀ k, k < 64 → ((1 : Int64) <<< ((nI k).toInt64 &&& 63)).toBitVec = BitVec.twoPow 64 k := by decide +kernel
/-- a bit is set -/
theorem b6_or {x : Int64} {j k : Nat} (hj : j < 64) (hk : k < 64) : bt64 (x ||| ((1 : Int64) <<< ((nI j).toInt64 &&& 63))) k = (bt64 x k || decide (k = j)) := by
  unfold bt64
  rw [Int64.toBitVec_or, b6_shl1 j hj, BitVec.getLsbD_or, BitVec.getLsbD_twoPow]
  congr 1
  by_cases c : j = k
  · subst c; simp [hj]
  · have c2 : ¬ k = j := fun e => c e.symm
    simp [c, c2]
/-- a bit is cleared -/
theorem b6_clr {x : Int64} {j k : Nat} (hj : j < 64) (hk : k < 64) : bt64 (x &&& (((1 : Int64) <<< ((nI j).toInt64 &&& 63)) ^^^ (-1 : Int64))) k = (bt64 x k && !decide (k = j)) := by
  unfold bt64
  have ha : (-1 : Int64).toBitVec = BitVec.allOnes 64 := by decide
  rw [Int64.toBitVec_and, Int64.toBitVec_xor, b6_shl1 j hj, ha, BitVec.getLsbD_and, BitVec.getLsbD_xor, BitVec.getLsbD_twoPow, BitVec.getLsbD_allOnes]
  congr 1
  by_cases c : j = k
  · subst c; simp [hj]
  · have c2 : ¬ k = j := fun e => c e.symm
    simp [c, c2, hk]
theorem b6_all : ∀ n, n < 63 → ∀ k, k < 64 → bt64 (((1 : Int64) <<< ((nI n).toInt64 &&& 63)) - (1 : Int64)) k = decide (k < n) := by decide +kernel
theorem b6_ext {x y : Int64} (h : ∀ k, k < 64 → bt64 x k = bt64 y k) : x = y := b6_inj (BitVec.eq_of_getLsbD_eq (fun k hk => h k hk))
/-- no bit from n on -/
theorem b6_high {x : Int64} {n : Nat} (hn : n < 64) : lg_cmp ((x.toUInt64 >>> ((nI n).toInt64.toUInt64 &&& Int64.toUInt64 63)).toInt64) (0 : Int64) = (0 : Int32) ↔ ∀ k, k < 64 → n ≤ k → bt64 x k = false := by
  rw [lg_cmp_eq, ← Int64.toBitVec_inj, b6_ush hn]
  show x.toBitVec >>> n = 0#64 ↔ _
  constructor
  · intro h k hk hnk
    have t := congrArg (fun y => y.getLsbD (k - n)) h
    simp only [BitVec.getLsbD_ushiftRight, BitVec.getLsbD_zero] at t
    rw [show n + (k - n) = k by omega] at t
    exact t
  · intro h
    apply BitVec.eq_of_getLsbD_eq
    intro i hi
    rw [BitVec.getLsbD_ushiftRight, BitVec.getLsbD_zero]
    by_cases c : n + i < 64
    · exact h (n + i) c (by omega)
    · exact BitVec.getLsbD_of_ge _ _ (by omega)
theorem b6_outside {x : Int64} {n : Nat} (hn : n < 63) : lg_cmp (x &&& ((((1 : Int64) <<< ((nI n).toInt64 &&& 63)) - (1 : Int64)) ^^^ (-1 : Int64))) (0 : Int64) = (0 : Int32) ↔ ∀ k, k < 64 → n ≤ k → bt64 x k = false := by
  have ha : (-1 : Int64).toBitVec = BitVec.allOnes 64 := by decide
  have hb : ∀ k, k < 64 → bt64 (x &&& ((((1 : Int64) <<< ((nI n).toInt64 &&& 63)) - (1 : Int64)) ^^^ (-1 : Int64))) k = (bt64 x k && decide (n ≤ k)) := by
    intro k hk
    have h1 := b6_all n hn k hk
    unfold bt64 at h1 ⊢
    rw [Int64.toBitVec_and, Int64.toBitVec_xor, ha, BitVec.getLsbD_and, BitVec.getLsbD_xor, BitVec.getLsbD_allOnes, h1]
    congr 1
    by_cases c : k < n
    · have c2 : ¬ n ≤ k := by omega
      simp [c, c2, hk]
    · have c2 : n ≤ k := by omega
      simp [c, c2, hk]
  have h0 : ∀ k, bt64 (0 : Int64) k = false := by
    intro k
    show (0#64).getLsbD k = false
    simp
  rw [lg_cmp_eq]
  constructor
  · intro h k hk hnk
    have h1 := hb k hk
    rw [h, h0 k] at h1
    simpa [hnk] using h1.symm
  · intro h
    refine b6_ext (fun k hk => ?_)
    rw [hb k hk, h0 k]
    by_cases c : n ≤ k
    · rw [h k hk c]; rfl
    · simp [c]

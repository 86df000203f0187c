/-! PURE: Long.bitCount (b6_shr, b6_and began as rows of kit/laws/BITS) -/
theorem b6_tn {n : Nat} (h : n < 2 ^ 64) : (lN n).toBitVec.toNat = n := by rw [b6_tb, BitVec.toNat_ofNat, Nat.mod_eq_of_lt h]
theorem b6_of (x : Int64) : ∃ n, n < 2 ^ 64 ∧ x = lN n := ⟨x.toBitVec.toNat, x.toBitVec.isLt, b6_inj (by rw [b6_tb]; simp)⟩
theorem b6_shr {n k : Nat} (hn : n < 2 ^ 64) (hk : k < 64) : ((lN n).toUInt64 >>> ((nI k).toInt64.toUInt64 &&& Int64.toUInt64 63)).toInt64 = lN (n / 2 ^ k) := by
  apply b6_inj
  rw [b6_ush hk, b6_tb, b6_tb]
  apply BitVec.eq_of_toNat_eq
  rw [BitVec.toNat_ushiftRight, BitVec.toNat_ofNat, BitVec.toNat_ofNat, Nat.mod_eq_of_lt hn, Nat.shiftRight_eq_div_pow, Nat.mod_eq_of_lt (Nat.lt_of_le_of_lt (Nat.div_le_self _ _) hn)]
theorem b6_and {a b : Nat} (ha : a < 2 ^ 64) (hb : b < 2 ^ 64) : lN a &&& lN b = lN (a &&& b) := by
  apply b6_inj
  rw [Int64.toBitVec_and, b6_tb, b6_tb, b6_tb]
  apply BitVec.eq_of_toNat_eq
  rw [BitVec.toNat_and, BitVec.toNat_ofNat, BitVec.toNat_ofNat, BitVec.toNat_ofNat, Nat.mod_eq_of_lt ha, Nat.mod_eq_of_lt hb, Nat.mod_eq_of_lt (Nat.and_lt_two_pow _ hb)]
theorem and_split {p q c d : Nat} (hp : p < 256) (hc : c < 256) : (p + 256 * q) &&& (c + 256 * d) = (p &&& c) + 256 * (q &&& d) := by
  have hpc : p &&& c < 2 ^ 8 := Nat.and_lt_two_pow p (show c < 2 ^ 8 by omega)
  apply Nat.eq_of_testBit_eq
  intro i
  rw [show p + 256 * q = 2 ^ 8 * q + p by omega, show c + 256 * d = 2 ^ 8 * d + c by omega, show (p &&& c) + 256 * (q &&& d) = 2 ^ 8 * (q &&& d) + (p &&& c) by omega]
  rw [Nat.testBit_and, Nat.testBit_two_pow_mul_add _ (show p < 2 ^ 8 by omega), Nat.testBit_two_pow_mul_add _ (show c < 2 ^ 8 by omega), Nat.testBit_two_pow_mul_add _ hpc]
  by_cases h : i < 8
  · simp only [if_pos h, Nat.testBit_and]
  · simp only [if_neg h, Nat.testBit_and]
def bys (f : Nat → Nat) (v : Nat → Nat) : Nat → Nat
  | 0 => 0
  | k + 1 => f (v 0) + 256 * bys f (fun j => v (j + 1)) k
theorem p1_dec : ∀ a, a < 256 → ∀ r, r < 2 → (a / 2 + 128 * r) &&& 85 = (a / 2) &&& 85 := by decide +kernel
theorem p2_dec : ∀ a, a < 256 → ∀ r, r < 4 → (a / 4 + 64 * r) &&& 51 = (a / 4) &&& 51 := by decide +kernel
theorem p1_le : ∀ a, a < 256 → (a / 2) &&& 85 ≤ a := by decide +kernel
abbrev h1 (a : Nat) : Nat := a - ((a / 2) &&& 85)
abbrev h2 (a : Nat) : Nat := (a &&& 51) + ((a / 4) &&& 51)
abbrev h3 (a : Nat) : Nat := (a + a / 16) % 16
theorem p3_dec : ∀ a, a < 256 → h2 (h1 a) ≤ 68 ∧ h2 (h1 a) % 16 ≤ 4 ∧ h3 (h2 (h1 a)) = cnt (fun k => a.testBit k) 8 := by decide +kernel
theorem bys_half : ∀ (k : Nat) (v : Nat → Nat), (∀ j, v j < 256) → (bys (fun a => a) v k / 2) &&& bys (fun _ => 85) v k = bys (fun a => (a / 2) &&& 85) v k
  | 0, _, _ => by simp [bys]
  | k + 1, v, hv => by
    have ih := bys_half k (fun j => v (j + 1)) (fun j => hv (j + 1))
    simp only [bys]
    have h0 := hv 0
    generalize bys (fun a => a) (fun j => v (j + 1)) k = b at ih ⊢
    rw [show (v 0 + 256 * b) / 2 = (v 0 / 2 + 128 * (b % 2)) + 256 * (b / 2) by omega, and_split (by omega) (by decide), ih, p1_dec (v 0) h0 (b % 2) (by omega)]
theorem bys_sub : ∀ (k : Nat) (v : Nat → Nat), (∀ j, v j < 256) → bys (fun a => a) v k - bys (fun a => (a / 2) &&& 85) v k = bys h1 v k ∧ bys (fun a => (a / 2) &&& 85) v k ≤ bys (fun a => a) v k
  | 0, _, _ => ⟨rfl, Nat.le_refl _⟩
  | k + 1, v, hv => by
    have ih := bys_sub k (fun j => v (j + 1)) (fun j => hv (j + 1))
    have hle := p1_le (v 0) (hv 0)
    simp only [bys, h1] at ih ⊢
    constructor
    · rw [← ih.1]; omega
    · omega
theorem bys_and51 : ∀ (k : Nat) (v : Nat → Nat), (∀ j, v j < 256) → bys (fun a => a) v k &&& bys (fun _ => 51) v k = bys (fun a => a &&& 51) v k
  | 0, _, _ => by simp [bys]
  | k + 1, v, hv => by
    have ih := bys_and51 k (fun j => v (j + 1)) (fun j => hv (j + 1))
    simp only [bys]
    rw [and_split (hv 0) (by decide), ih]
theorem bys_quar : ∀ (k : Nat) (v : Nat → Nat), (∀ j, v j < 256) → (bys (fun a => a) v k / 4) &&& bys (fun _ => 51) v k = bys (fun a => (a / 4) &&& 51) v k
  | 0, _, _ => by simp [bys]
  | k + 1, v, hv => by
    have ih := bys_quar k (fun j => v (j + 1)) (fun j => hv (j + 1))
    simp only [bys]
    have h0 := hv 0
    generalize bys (fun a => a) (fun j => v (j + 1)) k = b at ih ⊢
    rw [show (v 0 + 256 * b) / 4 = (v 0 / 4 + 64 * (b % 4)) + 256 * (b / 4) by omega, and_split (by omega) (by decide), ih, p2_dec (v 0) h0 (b % 4) (by omega)]
theorem bys_add (f g : Nat → Nat) : ∀ (k : Nat) (v : Nat → Nat), bys f v k + bys g v k = bys (fun a => f a + g a) v k
  | 0, _ => rfl
  | k + 1, v => by
    have ih := bys_add f g k (fun j => v (j + 1))
    simp only [bys]
    rw [← ih]; omega
theorem bys_nib : ∀ (k : Nat) (v : Nat → Nat), (∀ j, v j ≤ 68 ∧ v j % 16 ≤ 4) → (bys (fun a => a) v k + bys (fun a => a) v k / 16) &&& bys (fun _ => 15) v k = bys h3 v k
  | 0, _, _ => by simp [bys]
  | k + 1, v, hv => by
    have ih := bys_nib k (fun j => v (j + 1)) (fun j => hv (j + 1))
    have hb : bys (fun a => a) (fun j => v (j + 1)) k % 16 ≤ 4 := by
      cases k with
      | zero => simp [bys]
      | succ k =>
        have := (hv 1).2
        simp only [bys]
        show (v 1 + 256 * _) % 16 ≤ 4
        omega
    simp only [bys, h3] at ih ⊢
    have h0 := hv 0
    generalize bys (fun a => a) (fun j => v (j + 1)) k = b at ih hb ⊢
    rw [show v 0 + 256 * b + (v 0 + 256 * b) / 16 = (v 0 + v 0 / 16 + 16 * (b % 16)) + 256 * (b + b / 16) by omega, and_split (by omega) (by decide), ih]
    congr 1
    rw [show (15 : Nat) = 2 ^ 4 - 1 from rfl, Nat.and_two_pow_sub_one_eq_mod]
    omega
theorem bys_map (f g : Nat → Nat) : ∀ (k : Nat) (v : Nat → Nat), bys f (fun j => g (v j)) k = bys (fun a => f (g a)) v k
  | 0, _ => rfl
  | k + 1, v => by simp only [bys]; rw [bys_map f g k (fun j => v (j + 1))]
theorem bys_id (f : Nat → Nat) : ∀ (k : Nat) (v : Nat → Nat), bys (fun a => a) (fun j => f (v j)) k = bys f v k := bys_map (fun a => a) f
theorem cnt_add (p : Nat → Bool) (a : Nat) : ∀ b, cnt p (a + b) = cnt p a + cnt (fun k => p (a + k)) b
  | 0 => rfl
  | b + 1 => by
    show cnt p (a + b) + _ = _
    rw [cnt_add p a b]
    simp only [cnt]
    exact Nat.add_assoc _ _ _
theorem bt_nat {m k : Nat} (hm : m < 2 ^ 64) (hk : k < 64) : bt64 (lN m) k = m.testBit k := by
  unfold bt64
  rw [b6_tb, BitVec.getLsbD_ofNat]
  simp [hk]
theorem cnt_byte {m : Nat} (hm : m < 2 ^ 64) (j : Nat) (hj : j < 8) : cnt (fun k => bt64 (lN m) (8 * j + k)) 8 = cnt (fun k => (m / 256 ^ j % 256).testBit k) 8 := by
  refine cnt_congr (fun k hk => ?_)
  rw [bt_nat hm (by omega), show (256 : Nat) ^ j = 2 ^ (8 * j) by rw [show (256 : Nat) = 2 ^ 8 from rfl, ← Nat.pow_mul], show (256 : Nat) = 2 ^ 8 from rfl, Nat.testBit_mod_two_pow, Nat.testBit_div_two_pow]
  simp [hk, Nat.add_comm]
theorem bys_digits : ∀ (k m : Nat), m < 256 ^ k → bys (fun a => a) (fun j => m / 256 ^ j % 256) k = m
  | 0, m, h => by
    rw [Nat.pow_zero] at h
    show 0 = m
    omega
  | k + 1, m, h => by
    have h2 : m / 256 < 256 ^ k := Nat.div_lt_of_lt_mul (by rw [Nat.pow_succ, Nat.mul_comm] at h; exact h)
    have ih := bys_digits k (m / 256) h2
    have e : (fun j => m / 256 ^ (j + 1) % 256) = fun j => m / 256 / 256 ^ j % 256 := by
      funext j
      rw [Nat.div_div_eq_div_mul, Nat.pow_succ, Nat.mul_comm]
    simp only [bys, Nat.pow_zero, Nat.div_one]
    rw [e, ih]
    omega
theorem bys_lt {f : Nat → Nat} : ∀ (k : Nat) (v : Nat → Nat), (∀ j, f (v j) < 256) → bys f v k < 256 ^ k
  | 0, _, _ => Nat.one_pos
  | k + 1, v, hv => by
    have ih := bys_lt k (fun j => v (j + 1)) (fun j => hv (j + 1))
    have h0 := hv 0
    rw [Nat.pow_succ, Nat.mul_comm]
    simp only [bys]
    omega
theorem bys_shift : ∀ (s k : Nat) (v : Nat → Nat), (∀ j, v j < 256) → bys (fun a => a) v (k + s) / 256 ^ s = bys (fun a => a) (fun j => v (j + s)) k
  | 0, k, v, _ => by rw [Nat.pow_zero, Nat.div_one]; rfl
  | s + 1, k, v, hv => by
    have ih := bys_shift s k (fun j => v (j + 1)) (fun j => hv (j + 1))
    have h0 := hv 0
    rw [Nat.pow_succ, Nat.mul_comm, ← Nat.div_div_eq_div_mul]
    have e : bys (fun a => a) v (k + (s + 1)) / 256 = bys (fun a => a) (fun j => v (j + 1)) (k + s) := by
      show (v 0 + 256 * bys (fun a => a) (fun j => v (j + 1)) (k + s)) / 256 = _
      omega
    rw [e, ih]
    rfl
theorem bys_zero : ∀ (k : Nat) (v : Nat → Nat), (∀ j, v j = 0) → bys (fun a => a) v k = 0
  | 0, _, _ => rfl
  | k + 1, v, h => by
    show v 0 + 256 * bys (fun a => a) (fun j => v (j + 1)) k = 0
    rw [bys_zero k _ (fun j => h (j + 1)), h 0]
theorem bys_more : ∀ (k t : Nat) (v : Nat → Nat), (∀ j, k ≤ j → v j = 0) → bys (fun a => a) v (k + t) = bys (fun a => a) v k
  | 0, t, v, h => bys_zero _ v (fun j => h j (Nat.zero_le j))
  | k + 1, t, v, h => by
    rw [show k + 1 + t = (k + t) + 1 by omega]
    show v 0 + 256 * bys (fun a => a) (fun j => v (j + 1)) (k + t) = v 0 + 256 * bys (fun a => a) (fun j => v (j + 1)) k
    rw [bys_more k t (fun j => v (j + 1)) (fun j hj => h (j + 1) (by omega))]
theorem bys_add2 : ∀ (k : Nat) (v w : Nat → Nat), bys (fun a => a) v k + bys (fun a => a) w k = bys (fun a => a) (fun j => v j + w j) k
  | 0, _, _ => rfl
  | k + 1, v, w => by
    have ih := bys_add2 k (fun j => v (j + 1)) (fun j => w (j + 1))
    show (v 0 + 256 * bys (fun a => a) (fun j => v (j + 1)) k) + (w 0 + 256 * bys (fun a => a) (fun j => w (j + 1)) k) = (v 0 + w 0) + 256 * bys (fun a => a) (fun j => v (j + 1) + w (j + 1)) k
    rw [← ih]
    omega
theorem bys_fold {v : Nat → Nat} (hv : ∀ j, v j < 256) (hz : ∀ j, 8 ≤ j → v j = 0) {s : Nat} (hs : s ≤ 8) : bys (fun a => a) v 8 + bys (fun a => a) v 8 / 256 ^ s = bys (fun a => a) (fun j => v j + v (j + s)) 8 := by
  have a := bys_shift s (8 - s) v hv
  have b := bys_more (8 - s) s (fun j => v (j + s)) (fun j hj => hz (j + s) (by omega))
  rw [show 8 - s + s = 8 by omega] at a b
  rw [a, ← b, bys_add2]
theorem p256_8 : (256 : Nat) ^ 8 = 2 ^ 64 := by decide
theorem bys_l64 {v : Nat → Nat} (hv : ∀ j, v j < 256) : bys (fun a => a) v 8 < 2 ^ 64 := by
  have := bys_lt (f := fun a => a) 8 v hv
  rw [p256_8] at this
  exact this
theorem bys_k64 {c : Nat} (hc : c < 256) (v : Nat → Nat) : bys (fun _ => c) v 8 < 2 ^ 64 := by
  have := bys_lt (f := fun _ => c) 8 v (fun _ => hc)
  rw [p256_8] at this
  exact this
theorem bys_1 (f : Nat → Nat) (k : Nat) (v : Nat → Nat) : bys f v (k + 1) = f (v 0) + 256 * bys f (fun j => v (j + 1)) k := rfl
theorem bys_kon (c : Nat) : ∀ (k : Nat) (v w : Nat → Nat), bys (fun _ => c) v k = bys (fun _ => c) w k
  | 0, _, _ => rfl
  | k + 1, v, w => by rw [bys_1, bys_1, bys_kon c k (fun j => v (j + 1)) (fun j => w (j + 1))]
theorem pc_1 {v : Nat → Nat} (hv : ∀ j, v j < 256) {c : Int64} (hc : c = lN (bys (fun _ => 85) v 8)) : lN (bys (fun a => a) v 8) - ((((lN (bys (fun a => a) v 8)).toUInt64 >>> ((1 : Int32).toInt64.toUInt64 &&& Int64.toUInt64 63)).toInt64) &&& c) = lN (bys (fun a => a) (fun j => h1 (v j)) 8) := by
  have k1 := bys_half 8 v hv
  have k2 := bys_sub 8 v hv
  have b1 := bys_l64 hv
  have b2 := bys_k64 (c := 85) (by decide) v
  have e : ((lN (bys (fun a => a) v 8)).toUInt64 >>> ((1 : Int32).toInt64.toUInt64 &&& Int64.toUInt64 63)).toInt64 = lN (bys (fun a => a) v 8 / 2 ^ 1) := b6_shr b1 (by decide)
  rw [e, hc, Nat.pow_one, b6_and (Nat.lt_of_le_of_lt (Nat.div_le_self _ _) b1) b2, k1, lN_sub k2.2, k2.1, bys_id]
theorem pc_2 {v : Nat → Nat} (hv : ∀ j, v j < 256) {c : Int64} (hc : c = lN (bys (fun _ => 51) v 8)) : (lN (bys (fun a => a) v 8) &&& c) + ((((lN (bys (fun a => a) v 8)).toUInt64 >>> ((2 : Int32).toInt64.toUInt64 &&& Int64.toUInt64 63)).toInt64) &&& c) = lN (bys (fun a => a) (fun j => h2 (v j)) 8) := by
  have k1 := bys_and51 8 v hv
  have k2 := bys_quar 8 v hv
  have b1 := bys_l64 hv
  have b2 := bys_k64 (c := 51) (by decide) v
  have e : ((lN (bys (fun a => a) v 8)).toUInt64 >>> ((2 : Int32).toInt64.toUInt64 &&& Int64.toUInt64 63)).toInt64 = lN (bys (fun a => a) v 8 / 2 ^ 2) := b6_shr b1 (by decide)
  rw [e, hc, show (2 : Nat) ^ 2 = 4 from rfl, b6_and (Nat.lt_of_le_of_lt (Nat.div_le_self _ _) b1) b2, b6_and b1 b2, k1, k2, lN_add, bys_add, bys_id]
theorem pc_3 {v : Nat → Nat} (hv : ∀ j, v j ≤ 68 ∧ v j % 16 ≤ 4) {c : Int64} (hc : c = lN (bys (fun _ => 15) v 8)) : (lN (bys (fun a => a) v 8) + (((lN (bys (fun a => a) v 8)).toUInt64 >>> ((4 : Int32).toInt64.toUInt64 &&& Int64.toUInt64 63)).toInt64)) &&& c = lN (bys (fun a => a) (fun j => h3 (v j)) 8) := by
  have k1 := bys_nib 8 v hv
  have hv2 : ∀ j, v j < 256 := fun j => by have := (hv j).1; omega
  have b1 := bys_l64 hv2
  have b2 := bys_k64 (c := 15) (by decide) v
  have b3 : bys (fun a => a) v 8 + bys (fun a => a) v 8 / 16 < 2 ^ 64 := by
    have h := bys_l64 (v := fun j => v j + v j) (fun j => by have := (hv j).1; omega)
    rw [← bys_add2] at h
    have := Nat.div_le_self (bys (fun a => a) v 8) 16
    omega
  have e : ((lN (bys (fun a => a) v 8)).toUInt64 >>> ((4 : Int32).toInt64.toUInt64 &&& Int64.toUInt64 63)).toInt64 = lN (bys (fun a => a) v 8 / 2 ^ 4) := b6_shr b1 (by decide)
  rw [e, hc, show (2 : Nat) ^ 4 = 16 from rfl, lN_add, b6_and b3 b2, k1, bys_id]
theorem pc_f {v : Nat → Nat} (hv : ∀ j, v j < 256) (hz : ∀ j, 8 ≤ j → v j = 0) {s k : Nat} (hs : s ≤ 8) (hk : k < 64) (hsk : 256 ^ s = 2 ^ k) : lN (bys (fun a => a) v 8) + (((lN (bys (fun a => a) v 8)).toUInt64 >>> ((nI k).toInt64.toUInt64 &&& Int64.toUInt64 63)).toInt64) = lN (bys (fun a => a) (fun j => v j + v (j + s)) 8) := by
  rw [b6_shr (bys_l64 hv) hk, lN_add, ← hsk, bys_fold hv hz hs]
theorem pc_7 {v : Nat → Nat} (h0 : v 0 < 128) : ((lN (bys (fun a => a) v 8)).toInt32 &&& (127 : Int32)) = nI (v 0) := by
  rw [lN_i, pk_and _ 7 (by decide)]
  have e : (nI (bys (fun a => a) v 8)).toBitVec.toNat % 2 ^ 7 = v 0 := by
    have e1 : (nI (bys (fun a => a) v 8)).toBitVec.toNat = bys (fun a => a) v 8 % 2 ^ 32 := BitVec.toNat_ofNat _ _
    have d : (2 : Nat) ^ 7 ∣ 2 ^ 32 := ⟨2 ^ 25, by decide⟩
    rw [e1, Nat.mod_mod_of_dvd _ d, bys_1, show (2 : Nat) ^ 7 = 128 from rfl]
    omega
  rw [e]
theorem pc_lit5 (v : Nat → Nat) : (6148914691236517205 : Int64) = lN (bys (fun _ => 85) v 8) := by
  rw [bys_kon 85 8 v (fun _ => 0)]
  decide +kernel
theorem pc_lit3 (v : Nat → Nat) : (3689348814741910323 : Int64) = lN (bys (fun _ => 51) v 8) := by
  rw [bys_kon 51 8 v (fun _ => 0)]
  decide +kernel
theorem pc_lit0 (v : Nat → Nat) : (1085102592571150095 : Int64) = lN (bys (fun _ => 15) v 8) := by
  rw [bys_kon 15 8 v (fun _ => 0)]
  decide +kernel
theorem pc_cnt (p : Nat → Bool) (d : Nat → Nat) (hd : ∀ j, j < 8 → cnt (fun k => p (8 * j + k)) 8 = d j) : ∀ j, j ≤ 8 → cnt p (8 * j) = cnt (fun _ => false) 0 + Nat.rec 0 (fun k s => s + d k) j
  | 0, _ => rfl
  | j + 1, hj => by
    rw [show 8 * (j + 1) = 8 * j + 8 by omega, cnt_add, pc_cnt p d hd j (by omega), hd j (by omega)]
    exact Nat.add_assoc _ _ _
theorem bitCount_ok {x : Int64} {post : Int32 → Prop} (hp : post (nI (cnt (bt64 x) 64))) : wp_J13_bitCount_95d88 x post := by
  obtain ⟨m, hm, rfl⟩ := b6_of x
  obtain ⟨v, hvd⟩ : ∃ v : Nat → Nat, ∀ j, v j = m / 256 ^ j % 256 := ⟨_, fun _ => rfl⟩
  have hv : ∀ j, v j < 256 := fun j => by rw [hvd]; exact Nat.mod_lt _ (by decide)
  have hmv : m = bys (fun a => a) v 8 := by
    rw [show v = fun j => m / 256 ^ j % 256 from funext hvd]
    exact (bys_digits 8 m (by rw [p256_8]; exact hm)).symm
  have hv0 : ∀ j, 8 ≤ j → v j = 0 := fun j hj => by
    rw [hvd, Nat.div_eq_of_lt (Nat.lt_of_lt_of_le (by rw [p256_8]; exact hm) (Nat.pow_le_pow_right (by decide) hj))]
  have c : ∀ j, h2 (h1 (v j)) ≤ 68 ∧ h2 (h1 (v j)) % 16 ≤ 4 ∧ h3 (h2 (h1 (v j))) = cnt (fun k => (v j).testBit k) 8 := fun j => p3_dec (v j) (hv j)
  have hh1 : ∀ j, h1 (v j) < 256 := fun j => Nat.lt_of_le_of_lt (Nat.sub_le _ _) (hv j)
  obtain ⟨d, hd⟩ : ∃ d : Nat → Nat, ∀ j, d j = h3 (h2 (h1 (v j))) := ⟨_, fun _ => rfl⟩
  have hd8 : ∀ j, d j ≤ 8 := fun j => by rw [hd, (c j).2.2]; exact cnt_le _ 8
  have hd0 : ∀ j, 8 ≤ j → d j = 0 := fun j hj => by rw [hd, hv0 j hj]; decide
  have hcnt : cnt (bt64 (lN m)) 64 = d 0 + d 1 + d 2 + d 3 + d 4 + d 5 + d 6 + d 7 := by
    have hdj : ∀ j, j < 8 → cnt (fun k => bt64 (lN m) (8 * j + k)) 8 = d j := by
      intro j hj
      rw [cnt_byte hm j hj, hd, (c j).2.2, hvd]
    have s := pc_cnt (bt64 (lN m)) d hdj 8 (Nat.le_refl _)
    rw [show 8 * 8 = 64 from rfl] at s
    rw [s]
    show 0 + (((((((((0 + d 0) + d 1) + d 2) + d 3) + d 4) + d 5) + d 6) + d 7)) = _
    rw [Nat.zero_add, Nat.zero_add]
  have t1 := pc_1 hv (pc_lit5 v)
  have t2 := pc_2 hh1 (pc_lit3 _)
  have t3 := pc_3 (v := fun j => h2 (h1 (v j))) (fun j => ⟨(c j).1, (c j).2.1⟩) (pc_lit0 _)
  rw [show (fun j => h3 (h2 (h1 (v j)))) = d from (funext hd).symm] at t3
  have t4 := pc_f (v := d) (fun j => by have := hd8 j; omega) hd0 (s := 1) (k := 8) (by decide) (by decide) (by decide)
  have t5 := pc_f (v := fun j => d j + d (j + 1)) (fun j => by have := hd8 j; have := hd8 (j + 1); omega) (fun j hj => by rw [hd0 j hj, hd0 (j + 1) (by omega)]) (s := 2) (k := 16) (by decide) (by decide) (by decide)
  have t6 := pc_f (v := fun j => (d j + d (j + 1)) + (d (j + 2) + d (j + 2 + 1))) (fun j => by have := hd8 j; have := hd8 (j + 1); have := hd8 (j + 2); have := hd8 (j + 2 + 1); omega) (fun j hj => by rw [hd0 j hj, hd0 (j + 1) (by omega), hd0 (j + 2) (by omega), hd0 (j + 2 + 1) (by omega)]) (s := 4) (k := 32) (by decide) (by decide) (by decide)
  have t7 := pc_7 (v := fun j => ((d j + d (j + 1)) + (d (j + 2) + d (j + 2 + 1))) + ((d (j + 4) + d (j + 4 + 1)) + (d (j + 4 + 2) + d (j + 4 + 2 + 1)))) (by
    show ((d 0 + d 1) + (d 2 + d 3)) + ((d 4 + d 5) + (d 6 + d 7)) < 128
    have := hd8 0; have := hd8 1; have := hd8 2; have := hd8 3; have := hd8 4; have := hd8 5; have := hd8 6; have := hd8 7
    omega)
  unfold wp_J13_bitCount_95d88
  intro x1 e1 x2 e2 x3 e3 x4 e4 x5 e5 x6 e6
  rw [hmv, t1] at e1
  subst e1
  rw [t2] at e2
  subst e2
  rw [t3] at e3
  subst e3
  have e4 := e4.trans t4
  subst e4
  have e5 := e5.trans t5
  subst e5
  have e6 := e6.trans t6
  subst e6
  rw [t7]
  rw [hcnt] at hp
  have ee : ((d 0 + d 1) + (d 2 + d 3)) + ((d 4 + d 5) + (d 6 + d 7)) = d 0 + d 1 + d 2 + d 3 + d 4 + d 5 + d 6 + d 7 := by omega
  show post (nI (((d 0 + d 1) + (d 2 + d 3)) + ((d 4 + d 5) + (d 6 + d 7))))
  rw [ee]
  exact hp

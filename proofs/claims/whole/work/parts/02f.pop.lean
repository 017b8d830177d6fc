/-! how many bits a number has: the JDK's two bitCounts -/
section Pop
/-- the bits of a face -/
def pc (f : Nat) : Nat := fb_ct (fun i => f.testBit i) 7
def ushI (x y : Int32) : Int32 := (x.toUInt32 >>> (y.toUInt32 &&& 31)).toInt32
def popI (x0 : Int32) : Int32 :=
  (fun x => (fun x => (fun x => (fun x => (fun x => x &&& nI 63) (x + ushI x (nI 16))) (x + ushI x (nI 8))) ((x + ushI x (nI 4)) &&& nI 252645135)) ((x &&& nI 858993459) + (ushI x (nI 2) &&& nI 858993459))) (x0 - (ushI x0 (nI 1) &&& nI 1431655765))
theorem popI_ok : ∀ f, f < 128 → popI (nI f) = nI (pc f) := by decide +kernel
theorem mkN_8 (s : Nat → Bool) : ∀ n, mkN s (8 + n) = mkN s 8 + 256 * mkN (fun i => s (8 + i)) n
  | 0 => by show mkN s 8 = mkN s 8 + 256 * 0; omega
  | n + 1 => by
    have ih := mkN_8 s n
    show mkN s (8 + n) + (bif s (8 + n) then 2 ^ (8 + n) else 0) = mkN s 8 + 256 * (mkN (fun i => s (8 + i)) n + (bif s (8 + n) then 2 ^ n else 0))
    rw [ih]
    cases s (8 + n)
    · show _ + 0 = _ + 256 * (_ + 0); omega
    · show _ + 2 ^ (8 + n) = _ + 256 * (_ + 2 ^ n)
      rw [Nat.pow_add]; omega
theorem and_256 (x y p q : Nat) (hx : x < 256) (hp : p < 256) : (x + 256 * y) &&& (p + 256 * q) = (x &&& p) + 256 * (y &&& q) := by
  have h8 : (256 : Nat) = 2 ^ 8 := rfl
  have ha : x &&& p < 2 ^ 8 := Nat.lt_of_le_of_lt Nat.and_le_left hx
  refine Nat.eq_of_testBit_eq fun i => ?_
  rw [h8, Nat.add_comm x, Nat.add_comm p, Nat.add_comm (x &&& p), Nat.testBit_and, Nat.testBit_two_pow_mul_add _ hx, Nat.testBit_two_pow_mul_add _ hp, Nat.testBit_two_pow_mul_add _ ha]
  by_cases hi : i < 8
  · simp [hi, Nat.testBit_and]
  · simp [hi, Nat.testBit_and]
def st (p q r n : Nat) : Nat :=
  (fun a => (fun b => (b + b / 16) &&& r) ((a &&& q) + (a / 4 &&& q))) (n - (n / 2 &&& p))
theorem by_1 : ∀ x, x < 256 → ∀ b, b < 2 → (x / 2 + 128 * b) &&& 0x55 = x / 2 &&& 0x55 := by decide +kernel
theorem by_2 : ∀ x, x < 256 → ∀ b, b < 4 → (x / 4 + 64 * b) &&& 0x33 = x / 4 &&& 0x33 := by decide +kernel
theorem by_3 : ∀ x, x < 256 → st 0x55 0x33 15 x = fb_ct (fun i => x.testBit i) 8 := by decide +kernel
theorem st_step (x m p q r : Nat) (hx : x < 256) (hq : q % 16 ≤ 3) : st (0x55 + 256 * p) (0x33 + 256 * q) (15 + 256 * r) (x + 256 * m) = st 0x55 0x33 15 x + 256 * st p q r m := by
  obtain ⟨am, ham⟩ : ∃ z, z = m - (m / 2 &&& p) := ⟨_, rfl⟩
  obtain ⟨ax, hax⟩ : ∃ z, z = x - (x / 2 &&& 0x55) := ⟨_, rfl⟩
  have h1 : (x + 256 * m) - ((x + 256 * m) / 2 &&& (0x55 + 256 * p)) = ax + 256 * am := by
    have e : (x + 256 * m) / 2 = (x / 2 + 128 * (m % 2)) + 256 * (m / 2) := by omega
    rw [e, and_256 _ _ _ _ (by omega) (by decide), by_1 x hx _ (Nat.mod_lt _ (by decide))]
    have l1 : x / 2 &&& 0x55 ≤ x / 2 := Nat.and_le_left
    have l2 : m / 2 &&& p ≤ m / 2 := Nat.and_le_left
    omega
  have hax8 : ax < 256 := by omega
  obtain ⟨bm, hbm⟩ : ∃ z, z = (am &&& q) + (am / 4 &&& q) := ⟨_, rfl⟩
  obtain ⟨bx, hbx⟩ : ∃ z, z = (ax &&& 0x33) + (ax / 4 &&& 0x33) := ⟨_, rfl⟩
  have h2 : ((ax + 256 * am) &&& (0x33 + 256 * q)) + ((ax + 256 * am) / 4 &&& (0x33 + 256 * q)) = bx + 256 * bm := by
    have e : (ax + 256 * am) / 4 = (ax / 4 + 64 * (am % 4)) + 256 * (am / 4) := by omega
    rw [e, and_256 _ _ _ _ hax8 (by decide), and_256 _ _ _ _ (by omega) (by decide), by_2 ax hax8 _ (Nat.mod_lt _ (by decide))]
    omega
  have hb1 : ∀ z, (z &&& q) % 16 ≤ 3 := fun z => by
    have e : (z &&& q) % 16 = (z % 16) &&& (q % 16) := by
      refine Nat.eq_of_testBit_eq fun i => ?_
      have h16 : (16 : Nat) = 2 ^ 4 := rfl
      rw [h16, Nat.testBit_mod_two_pow, Nat.testBit_and, Nat.testBit_and, Nat.testBit_mod_two_pow, Nat.testBit_mod_two_pow]
      cases decide (i < 4) <;> simp
    rw [e]
    exact Nat.le_trans Nat.and_le_right hq
  have hbm16 : bm % 16 ≤ 6 := by have a1 := hb1 am; have a2 := hb1 (am / 4); omega
  have hbxl : bx ≤ 102 := by
    have a1 : ax &&& 0x33 ≤ 0x33 := Nat.and_le_right
    have a2 : ax / 4 &&& 0x33 ≤ 0x33 := Nat.and_le_right
    omega
  show (fun a => (fun b => (b + b / 16) &&& (15 + 256 * r)) ((a &&& (0x33 + 256 * q)) + (a / 4 &&& (0x33 + 256 * q)))) ((x + 256 * m) - ((x + 256 * m) / 2 &&& (0x55 + 256 * p))) = (fun a => (fun b => (b + b / 16) &&& 15) ((a &&& 0x33) + (a / 4 &&& 0x33))) (x - (x / 2 &&& 0x55)) + 256 * (fun a => (fun b => (b + b / 16) &&& r) ((a &&& q) + (a / 4 &&& q))) (m - (m / 2 &&& p))
  rw [h1, ← ham, ← hax]
  show (fun b => (b + b / 16) &&& (15 + 256 * r)) (((ax + 256 * am) &&& (0x33 + 256 * q)) + ((ax + 256 * am) / 4 &&& (0x33 + 256 * q))) = (fun b => (b + b / 16) &&& 15) ((ax &&& 0x33) + (ax / 4 &&& 0x33)) + 256 * (fun b => (b + b / 16) &&& r) ((am &&& q) + (am / 4 &&& q))
  rw [h2, ← hbm, ← hbx]
  show (bx + 256 * bm + (bx + 256 * bm) / 16) &&& (15 + 256 * r) = ((bx + bx / 16) &&& 15) + 256 * ((bm + bm / 16) &&& r)
  have e : bx + 256 * bm + (bx + 256 * bm) / 16 = (bx + bx / 16 + 16 * (bm % 16)) + 256 * (bm + bm / 16) := by omega
  rw [e, and_256 _ _ _ _ (by omega) (by decide)]
  have e15 : ∀ z : Nat, z &&& 15 = z % 16 := fun z => Nat.and_two_pow_sub_one_eq_mod z 4
  rw [e15, e15]
  omega
def mk9 (m : Nat) : Nat → Nat
  | 0 => 0
  | j + 1 => m + 256 * mk9 m j
def dig : Nat → (Nat → Bool) → Nat
  | 0, _ => 0
  | j + 1, s => fb_ct s 8 + 256 * dig j (fun i => s (8 + i))
theorem mk9_16 : ∀ j, mk9 0x33 j % 16 ≤ 3
  | 0 => by decide
  | j + 1 => by show (0x33 + 256 * mk9 0x33 j) % 16 ≤ 3; omega
theorem st_dig : ∀ (j : Nat) (s : Nat → Bool), st (mk9 0x55 j) (mk9 0x33 j) (mk9 15 j) (mkN s (8 * j)) = dig j s
  | 0, s => by show st 0 0 0 0 = 0; decide
  | j + 1, s => by
    have e : 8 * (j + 1) = 8 + 8 * j := by omega
    rw [e, mkN_8]
    show st (0x55 + 256 * mk9 0x55 j) (0x33 + 256 * mk9 0x33 j) (15 + 256 * mk9 15 j) _ = fb_ct s 8 + 256 * dig j (fun i => s (8 + i))
    rw [st_step _ _ _ _ _ (mkN_lt s 8) (mk9_16 j), by_3 _ (mkN_lt s 8), st_dig j]
    congr 1
    refine fb_ct_cong fun k hk => ?_
    rw [mkN_bit, decide_eq_true hk, Bool.true_and]
def popN (n : Nat) : Nat :=
  (fun c => (fun d => (fun e => (e + e / 4294967296) &&& 127) (d + d / 65536)) (c + c / 256)) (st 6148914691236517205 3689348814741910323 1085102592571150095 n)
theorem dv9 (a b k : Nat) (h : a < k) : (a + k * b) / k = b := by
  rw [Nat.add_mul_div_left _ _ (by omega), Nat.div_eq_of_lt h, Nat.zero_add]
theorem pop_sum (p0 p1 p2 p3 p4 p5 p6 p7 : Nat) (b0 : p0 ≤ 8) (b1 : p1 ≤ 8) (b2 : p2 ≤ 8) (b3 : p3 ≤ 8) (b4 : p4 ≤ 8) (b5 : p5 ≤ 8) (b6 : p6 ≤ 8) (b7 : p7 ≤ 8) :
    (p0 + 256 * (p1 + 256 * (p2 + 256 * (p3 + 256 * (p4 + 256 * (p5 + 256 * (p6 + 256 * (p7 + 256 * 0))))))) + (p0 + 256 * (p1 + 256 * (p2 + 256 * (p3 + 256 * (p4 + 256 * (p5 + 256 * (p6 + 256 * (p7 + 256 * 0)))))))) / 256 + (p0 + 256 * (p1 + 256 * (p2 + 256 * (p3 + 256 * (p4 + 256 * (p5 + 256 * (p6 + 256 * (p7 + 256 * 0))))))) + (p0 + 256 * (p1 + 256 * (p2 + 256 * (p3 + 256 * (p4 + 256 * (p5 + 256 * (p6 + 256 * (p7 + 256 * 0)))))))) / 256) / 65536 +
      (p0 + 256 * (p1 + 256 * (p2 + 256 * (p3 + 256 * (p4 + 256 * (p5 + 256 * (p6 + 256 * (p7 + 256 * 0))))))) + (p0 + 256 * (p1 + 256 * (p2 + 256 * (p3 + 256 * (p4 + 256 * (p5 + 256 * (p6 + 256 * (p7 + 256 * 0)))))))) / 256 + (p0 + 256 * (p1 + 256 * (p2 + 256 * (p3 + 256 * (p4 + 256 * (p5 + 256 * (p6 + 256 * (p7 + 256 * 0))))))) + (p0 + 256 * (p1 + 256 * (p2 + 256 * (p3 + 256 * (p4 + 256 * (p5 + 256 * (p6 + 256 * (p7 + 256 * 0)))))))) / 256) / 65536) / 4294967296) % 128 =
    p0 + (p1 + (p2 + (p3 + (p4 + (p5 + (p6 + p7)))))) := by
  obtain ⟨q6, hq6⟩ : ∃ z, z = p6 + 256 * (p7 + 256 * 0) := ⟨_, rfl⟩
  rw [← hq6]
  obtain ⟨q5, hq5⟩ : ∃ z, z = p5 + 256 * q6 := ⟨_, rfl⟩
  rw [← hq5]
  obtain ⟨q4, hq4⟩ : ∃ z, z = p4 + 256 * q5 := ⟨_, rfl⟩
  rw [← hq4]
  obtain ⟨q3, hq3⟩ : ∃ z, z = p3 + 256 * q4 := ⟨_, rfl⟩
  rw [← hq3]
  obtain ⟨q2, hq2⟩ : ∃ z, z = p2 + 256 * q3 := ⟨_, rfl⟩
  rw [← hq2]
  obtain ⟨q1, hq1⟩ : ∃ z, z = p1 + 256 * q2 := ⟨_, rfl⟩
  rw [← hq1]
  rw [dv9 p0 q1 256 (by omega)]
  have e2 : p0 + 256 * q1 + q1 = (p0 + p1 + 256 * (p1 + p2)) + 65536 * (q2 + q3) := by
    rw [hq1, hq2]; omega
  rw [e2, dv9 _ (q2 + q3) 65536 (by omega)]
  have e3 : p0 + p1 + 256 * (p1 + p2) + 65536 * (q2 + q3) + (q2 + q3) = ((p0 + p1 + p2 + p3) + 256 * (p1 + p2 + p3 + p4) + 65536 * (p2 + p3 + p4 + p5) + 16777216 * (p3 + p4 + p5 + p6)) + 4294967296 * (q4 + q5 + q6 + p7) := by
    rw [hq2, hq3, hq4, hq5, hq6]; omega
  rw [e3, dv9 _ (q4 + q5 + q6 + p7) 4294967296 (by omega)]
  have e4 : q4 + q5 + q6 + p7 = (p4 + p5 + p6 + p7) + 128 * (2 * (q5 + q6 + p7)) := by
    rw [hq4, hq5, hq6]; omega
  have e5 : ((p0 + p1 + p2 + p3) + 256 * (p1 + p2 + p3 + p4) + 65536 * (p2 + p3 + p4 + p5) + 16777216 * (p3 + p4 + p5 + p6)) + 4294967296 * (q4 + q5 + q6 + p7) + (q4 + q5 + q6 + p7) = (p0 + p1 + p2 + p3 + (p4 + p5 + p6 + p7)) + 128 * (2 * (p1 + p2 + p3 + p4) + 512 * (p2 + p3 + p4 + p5) + 131072 * (p3 + p4 + p5 + p6) + 33554432 * (q4 + q5 + q6 + p7) + 2 * (q5 + q6 + p7)) := by omega
  rw [e5, Nat.add_mul_mod_self_left, Nat.mod_eq_of_lt (by omega)]
  omega
theorem popN_ok (s : Nat → Bool) : popN (mkN s 64) = fb_ct s 64 := by
  have h := st_dig 8 s
  have e1 : mk9 0x55 8 = 6148914691236517205 := by decide
  have e2 : mk9 0x33 8 = 3689348814741910323 := by decide
  have e3 : mk9 15 8 = 1085102592571150095 := by decide
  rw [e1, e2, e3] at h
  unfold popN
  rw [h]
  have e127 : ∀ z : Nat, z &&& 127 = z % 128 := fun z => Nat.and_two_pow_sub_one_eq_mod z 7
  have hs : fb_ct s 64 = fb_ct s 8 + (fb_ct (fun i => s (8 + i)) 8 + (fb_ct (fun i => s (8 + (8 + i))) 8 + (fb_ct (fun i => s (8 + (8 + (8 + i)))) 8 + (fb_ct (fun i => s (8 + (8 + (8 + (8 + i))))) 8 + (fb_ct (fun i => s (8 + (8 + (8 + (8 + (8 + i)))))) 8 + (fb_ct (fun i => s (8 + (8 + (8 + (8 + (8 + (8 + i))))))) 8 + fb_ct (fun i => s (8 + (8 + (8 + (8 + (8 + (8 + (8 + i)))))))) 8)))))) := by
    rw [show (64 : Nat) = 8 + 56 from rfl, fb_ct_split, show (56 : Nat) = 8 + 48 from rfl, fb_ct_split, show (48 : Nat) = 8 + 40 from rfl, fb_ct_split, show (40 : Nat) = 8 + 32 from rfl, fb_ct_split, show (32 : Nat) = 8 + 24 from rfl, fb_ct_split, show (24 : Nat) = 8 + 16 from rfl, fb_ct_split, show (16 : Nat) = 8 + 8 from rfl, fb_ct_split]
  rw [hs]
  simp only [dig]
  have b0 := fb_ct_le s 8
  have b1 := fb_ct_le (fun i => s (8 + i)) 8
  have b2 := fb_ct_le (fun i => s (8 + (8 + i))) 8
  have b3 := fb_ct_le (fun i => s (8 + (8 + (8 + i)))) 8
  have b4 := fb_ct_le (fun i => s (8 + (8 + (8 + (8 + i))))) 8
  have b5 := fb_ct_le (fun i => s (8 + (8 + (8 + (8 + (8 + i)))))) 8
  have b6 := fb_ct_le (fun i => s (8 + (8 + (8 + (8 + (8 + (8 + i))))))) 8
  have b7 := fb_ct_le (fun i => s (8 + (8 + (8 + (8 + (8 + (8 + (8 + i)))))))) 8
  generalize fb_ct s 8 = p0 at b0 ⊢
  generalize fb_ct (fun i => s (8 + i)) 8 = p1 at b1 ⊢
  generalize fb_ct (fun i => s (8 + (8 + i))) 8 = p2 at b2 ⊢
  generalize fb_ct (fun i => s (8 + (8 + (8 + i)))) 8 = p3 at b3 ⊢
  generalize fb_ct (fun i => s (8 + (8 + (8 + (8 + i))))) 8 = p4 at b4 ⊢
  generalize fb_ct (fun i => s (8 + (8 + (8 + (8 + (8 + i)))))) 8 = p5 at b5 ⊢
  generalize fb_ct (fun i => s (8 + (8 + (8 + (8 + (8 + (8 + i))))))) 8 = p6 at b6 ⊢
  generalize fb_ct (fun i => s (8 + (8 + (8 + (8 + (8 + (8 + (8 + i)))))))) 8 = p7 at b7 ⊢
  rw [e127]
  exact pop_sum p0 p1 p2 p3 p4 p5 p6 p7 b0 b1 b2 b3 b4 b5 b6 b7
def ushL (x : Int64) (y : Int32) : Int64 := (x.toUInt64 >>> (y.toInt64.toUInt64 &&& Int64.toUInt64 63)).toInt64
def popL (x0 : Int64) : Int32 :=
  (fun x => (fun x => (fun x => (fun x => (fun x => (fun x => x.toInt32 &&& nI 127) (x + ushL x (nI 32))) (x + ushL x (nI 16))) (x + ushL x (nI 8))) ((x + ushL x (nI 4)) &&& lN 1085102592571150095)) ((x &&& lN 3689348814741910323) + (ushL x (nI 2) &&& lN 3689348814741910323))) (x0 - (ushL x0 (nI 1) &&& lN 6148914691236517205))
theorem ushL_N {n : Nat} (k : Nat) (hn : n < 2 ^ 64) (hk : k < 64) : ushL (lN n) (nI k) = lN (n / 2 ^ k) := wb_shr hn hk
theorem popL_ok (s : Nat → Bool) : popL (enW s) = nI (fb_ct s 64) := by
  have h64 := mkN_lt s 64
  rw [← popN_ok]
  unfold popL enW
  generalize mkN s 64 = n at h64 ⊢
  have l1 : n / 2 ^ 1 &&& 6148914691236517205 ≤ n := Nat.le_trans Nat.and_le_left (Nat.div_le_self _ _)
  rw [ushL_N 1 h64 (by decide), fb_andL, lN_sub l1]
  have ha : n - (n / 2 ^ 1 &&& 6148914691236517205) < 2 ^ 64 := Nat.lt_of_le_of_lt (Nat.sub_le _ _) h64
  unfold popN st
  show (fun x => (fun x => (fun x => (fun x => (fun x => (fun x => x.toInt32 &&& nI 127) (x + ushL x (nI 32))) (x + ushL x (nI 16))) (x + ushL x (nI 8))) ((x + ushL x (nI 4)) &&& lN 1085102592571150095)) ((x &&& lN 3689348814741910323) + (ushL x (nI 2) &&& lN 3689348814741910323))) (lN (n - (n / 2 &&& 6148914691236517205))) = _
  have ha : n - (n / 2 &&& 6148914691236517205) < 2 ^ 64 := ha
  generalize n - (n / 2 &&& 6148914691236517205) = a at ha ⊢
  show (fun x => (fun x => (fun x => (fun x => (fun x => x.toInt32 &&& nI 127) (x + ushL x (nI 32))) (x + ushL x (nI 16))) (x + ushL x (nI 8))) ((x + ushL x (nI 4)) &&& lN 1085102592571150095)) ((lN a &&& lN 3689348814741910323) + (ushL (lN a) (nI 2) &&& lN 3689348814741910323)) = nI ((fun c => (fun d => (fun e => (e + e / 4294967296) &&& 127) (d + d / 65536)) (c + c / 256)) ((fun b => (b + b / 16) &&& 1085102592571150095) ((a &&& 3689348814741910323) + (a / 4 &&& 3689348814741910323))))
  rw [ushL_N 2 ha (by decide), fb_andL, fb_andL, lN_add]
  have hb : (a &&& 3689348814741910323) + (a / 4 &&& 3689348814741910323) < 2 ^ 64 := by
    have b1 : a &&& 3689348814741910323 ≤ 3689348814741910323 := Nat.and_le_right
    have b2 : a / 4 &&& 3689348814741910323 ≤ 3689348814741910323 := Nat.and_le_right
    omega
  show (fun x => (fun x => (fun x => (fun x => (fun x => x.toInt32 &&& nI 127) (x + ushL x (nI 32))) (x + ushL x (nI 16))) (x + ushL x (nI 8))) ((x + ushL x (nI 4)) &&& lN 1085102592571150095)) (lN ((a &&& 3689348814741910323) + (a / 4 &&& 3689348814741910323))) = _
  generalize (a &&& 3689348814741910323) + (a / 4 &&& 3689348814741910323) = b at hb ⊢
  show (fun x => (fun x => (fun x => (fun x => x.toInt32 &&& nI 127) (x + ushL x (nI 32))) (x + ushL x (nI 16))) (x + ushL x (nI 8))) ((lN b + ushL (lN b) (nI 4)) &&& lN 1085102592571150095) = nI ((fun c => (fun d => (fun e => (e + e / 4294967296) &&& 127) (d + d / 65536)) (c + c / 256)) ((b + b / 16) &&& 1085102592571150095))
  rw [ushL_N 4 hb (by decide), lN_add, fb_andL]
  have hc : (b + b / 16) &&& 1085102592571150095 ≤ 1085102592571150095 := Nat.and_le_right
  show (fun x => (fun x => (fun x => (fun x => x.toInt32 &&& nI 127) (x + ushL x (nI 32))) (x + ushL x (nI 16))) (x + ushL x (nI 8))) (lN ((b + b / 16) &&& 1085102592571150095)) = _
  generalize (b + b / 16) &&& 1085102592571150095 = c at hc ⊢
  show (fun x => (fun x => (fun x => x.toInt32 &&& nI 127) (x + ushL x (nI 32))) (x + ushL x (nI 16))) (lN c + ushL (lN c) (nI 8)) = nI ((fun d => (fun e => (e + e / 4294967296) &&& 127) (d + d / 65536)) (c + c / 256))
  rw [ushL_N 8 (by omega) (by decide), lN_add]
  have hd : c + c / 256 < 2 ^ 62 := by omega
  show (fun x => (fun x => (fun x => x.toInt32 &&& nI 127) (x + ushL x (nI 32))) (x + ushL x (nI 16))) (lN (c + c / 256)) = _
  generalize c + c / 256 = d at hd ⊢
  show (fun x => (fun x => x.toInt32 &&& nI 127) (x + ushL x (nI 32))) (lN d + ushL (lN d) (nI 16)) = nI ((fun e => (e + e / 4294967296) &&& 127) (d + d / 65536))
  rw [ushL_N 16 (by omega) (by decide), lN_add]
  have he : d + d / 65536 < 2 ^ 63 := by omega
  show (fun x => (fun x => x.toInt32 &&& nI 127) (x + ushL x (nI 32))) (lN (d + d / 65536)) = _
  generalize d + d / 65536 = e at he ⊢
  show (lN e + ushL (lN e) (nI 32)).toInt32 &&& nI 127 = nI ((e + e / 4294967296) &&& 127)
  rw [ushL_N 32 (by omega) (by decide), lN_add, lN_i, nx_and]
end Pop

/-! The bits of a small whole number, counted. -/
def tbN (x : Int32) : Nat := x.toBitVec.toNat
theorem tb_lt (x : Int32) : tbN x < 2 ^ 32 := x.toBitVec.isLt
theorem tb_ext {x y : Int32} (h : tbN x = tbN y) : x = y := Int32.toBitVec_inj.mp (BitVec.eq_of_toNat_eq h)
theorem tb_nI {n : Nat} (h : n < 2 ^ 32) : tbN (nI n) = n := by
  show (Int32.ofNat n).toBitVec.toNat = n
  rw [show (Int32.ofNat n).toBitVec = BitVec.ofNat 32 n from rfl, BitVec.toNat_ofNat]
  omega
theorem tb_and (x y : Int32) : tbN (x &&& y) = tbN x &&& tbN y := by unfold tbN; rw [Int32.toBitVec_and, BitVec.toNat_and]
theorem tb_add {x y : Int32} (h : tbN x + tbN y < 2 ^ 32) : tbN (x + y) = tbN x + tbN y := by
  unfold tbN at h ⊢; rw [Int32.toBitVec_add, BitVec.toNat_add]; omega
theorem tb_sub {x y : Int32} (h : tbN y ≤ tbN x) : tbN (x - y) = tbN x - tbN y := by
  have := tb_lt x
  unfold tbN at h this ⊢; rw [Int32.toBitVec_sub, BitVec.toNat_sub]; omega
theorem s_u9 : ∀ n, n < 32 → (((nI n).toUInt32 &&& Int32.toUInt32 31).toBitVec % 32).toNat = n := by decide +kernel
theorem tb_ushr {n : Nat} (hn : n < 32) (x : Int32) : tbN ((x.toUInt32 >>> ((nI n).toUInt32 &&& Int32.toUInt32 31)).toInt32) = tbN x / 2 ^ n := by
  show (x.toUInt32 >>> ((nI n).toUInt32 &&& Int32.toUInt32 31)).toBitVec.toNat = x.toUInt32.toBitVec.toNat / 2 ^ n
  rw [UInt32.toBitVec_shiftRight]
  show (x.toUInt32.toBitVec >>> (((nI n).toUInt32 &&& Int32.toUInt32 31).toBitVec % 32).toNat).toNat = _
  rw [s_u9 n hn, BitVec.toNat_ushiftRight, Nat.shiftRight_eq_div_pow]
theorem s_l9 : ∀ n, n < 32 → ((nI n &&& 31).toBitVec.smod 32).toNat = n := by decide +kernel
theorem tb_bit {x : Int32} {n : Nat} (hn : n < 32) : bitI x n = 1 ↔ tbN x / 2 ^ n % 2 = 1 := by
  have e : tbN (bitI x n) = tbN x / 2 ^ n % 2 := by
    unfold bitI
    rw [tb_and, show tbN 1 = 2 ^ 1 - 1 from rfl, Nat.and_two_pow_sub_one_eq_mod]
    show tbN (x >>> (nI n &&& 31)) % 2 = _
    have h1 : (tbN (x >>> (nI n &&& 31))).testBit 0 = (tbN x).testBit n := by
      unfold tbN
      rw [Int32.toBitVec_shiftRight]
      show (x.toBitVec.sshiftRight ((nI n &&& 31).toBitVec.smod 32).toNat).getLsbD 0 = x.toBitVec.getLsbD n
      rw [s_l9 n hn, BitVec.getLsbD_sshiftRight]
      simp [hn]
    rw [Nat.testBit_eq_decide_div_mod_eq, Nat.testBit_eq_decide_div_mod_eq, decide_eq_decide] at h1
    have h2 : tbN (x >>> (nI n &&& 31)) / 2 ^ 0 % 2 < 2 := Nat.mod_lt _ (by decide)
    have h3 : tbN x / 2 ^ n % 2 < 2 := Nat.mod_lt _ (by decide)
    have e0 : tbN (x >>> (nI n &&& 31)) / 2 ^ 0 = tbN (x >>> (nI n &&& 31)) := by rw [Nat.pow_zero, Nat.div_one]
    rw [e0] at h1 h2
    omega
  rw [← e]
  exact ⟨fun h => by rw [h]; rfl, fun h => tb_ext (by rw [h]; rfl)⟩
def cntN (N : Nat) : Nat → Nat
  | 0 => 0
  | n + 1 => cntN N n + N / 2 ^ n % 2
theorem bits_cnt {x : Int32} : ∀ n, n ≤ 32 → (bitsL x n).length = cntN (tbN x) n
  | 0, _ => rfl
  | n + 1, h => by
    have ih := bits_cnt (x := x) n (by omega)
    have hb := tb_bit (x := x) (n := n) (by omega)
    have h2 : tbN x / 2 ^ n % 2 < 2 := Nat.mod_lt _ (by decide)
    show (if bitI x n = 1 then bitsL x n ++ [n] else bitsL x n).length = cntN (tbN x) n + tbN x / 2 ^ n % 2
    by_cases c : bitI x n = 1
    · rw [if_pos c, List.length_append, ih, hb.mp c]; rfl
    · rw [if_neg c, ih]; have : ¬ tbN x / 2 ^ n % 2 = 1 := fun z => c (hb.mpr z); omega
theorem and_8 {a m a1 m1 : Nat} (ha : a < 256) (hm : m < 256) : (a + 256 * a1) &&& (m + 256 * m1) = (a &&& m) + 256 * (a1 &&& m1) := by
  have h1 := Nat.and_mod_two_pow (a := a + 256 * a1) (b := m + 256 * m1) (n := 8)
  have h2 := Nat.and_div_two_pow (a := a + 256 * a1) (b := m + 256 * m1) (n := 8)
  rw [show (a + 256 * a1) % 2 ^ 8 = a by omega, show (m + 256 * m1) % 2 ^ 8 = m by omega] at h1
  rw [show (a + 256 * a1) / 2 ^ 8 = a1 by omega, show (m + 256 * m1) / 2 ^ 8 = m1 by omega] at h2
  omega
theorem and_24 {a b d m : Nat} (ha : a < 256) (hb : b < 256) (hd : d < 256) (hm : m < 256) : (a + 256 * b + 65536 * d) &&& (m + 256 * m + 65536 * m + 16777216 * m) = (a &&& m) + 256 * (b &&& m) + 65536 * (d &&& m) := by
  rw [show a + 256 * b + 65536 * d = a + 256 * (b + 256 * (d + 256 * 0)) by omega, show m + 256 * m + 65536 * m + 16777216 * m = m + 256 * (m + 256 * (m + 256 * m)) by omega, and_8 ha hm, and_8 hb hm, and_8 hd hm, Nat.zero_and]
  omega
def pc1 (b : Nat) : Nat := b - ((b / 2) &&& 85)
def pc2 (b : Nat) : Nat := (b &&& 51) + ((b / 4) &&& 51)
def pc3 (b : Nat) : Nat := (b + b / 16) &&& 15
def pcB (b : Nat) : Nat := pc3 (pc2 (pc1 b))
theorem pc_a : ∀ b, b < 256 → ∀ k, k < 2 → ((b / 2 + 128 * k) &&& 85) = (b / 2) &&& 85 := by decide +kernel
theorem pc_b : ∀ b, b < 256 → ((b / 2) &&& 85) ≤ b ∧ pc1 b < 256 ∧ pc2 (pc1 b) % 16 ≤ 4 ∧ pc2 (pc1 b) / 16 ≤ 4 ∧ pcB b ≤ 8 ∧ pcB b = cntN b 8 := by decide +kernel
theorem pc_c : ∀ b, b < 256 → ∀ k, k < 4 → ((b / 4 + 64 * k) &&& 51) = (b / 4) &&& 51 := by decide +kernel
theorem pc_d : ∀ b, b < 69 → ∀ k, k < 5 → ((b + b / 16 + 16 * k) &&& 15) = (b + b / 16) &&& 15 := by decide +kernel
theorem pc_e : ∀ b, b < 256 → (b &&& 51) < 64 ∧ ((b / 4) &&& 51) < 64 := by decide +kernel
theorem swar {N : Nat} (hN : N < 2 ^ 24) {b0 b1 b2 : Nat} (h0 : b0 = N % 256) (h1 : b1 = N / 256 % 256) (h2 : b2 = N / 65536) (x : Int32) (hx : tbN x = N) : bcE x = nI (pcB b0 + pcB b1 + pcB b2) := by
  have e : N = b0 + 256 * b1 + 65536 * b2 := by omega
  have l0 : b0 < 256 := by omega
  have l1 : b1 < 256 := by omega
  have l2 : b2 < 256 := by omega
  obtain ⟨p0, q0, r0, s0, t0, -⟩ := pc_b b0 l0
  obtain ⟨p1, q1, r1, s1, t1, -⟩ := pc_b b1 l1
  obtain ⟨p2, q2, r2, s2, t2, -⟩ := pc_b b2 l2
  unfold bcE
  dsimp only
  -- the first
  have a1 : tbN ((x.toUInt32 >>> ((1 : Int32).toUInt32 &&& Int32.toUInt32 31)).toInt32 &&& 1431655765) = ((b0 / 2) &&& 85) + 256 * ((b1 / 2) &&& 85) + 65536 * ((b2 / 2) &&& 85) := by
    rw [tb_and, show (1 : Int32) = nI 1 from rfl, tb_ushr (by decide), hx, show tbN 1431655765 = 85 + 256 * 85 + 65536 * 85 + 16777216 * 85 from rfl]
    rw [show N / 2 ^ 1 = (b0 / 2 + 128 * (b1 % 2)) + 256 * (b1 / 2 + 128 * (b2 % 2)) + 65536 * (b2 / 2 + 128 * 0) by omega, and_24 (by omega) (by omega) (by omega) (by decide), pc_a b0 l0 _ (by omega), pc_a b1 l1 _ (by omega), pc_a b2 l2 _ (by decide)]
  have a2 : tbN (x - ((x.toUInt32 >>> ((1 : Int32).toUInt32 &&& Int32.toUInt32 31)).toInt32 &&& 1431655765)) = pc1 b0 + 256 * pc1 b1 + 65536 * pc1 b2 := by
    rw [tb_sub (by rw [a1, hx]; omega), a1, hx]; unfold pc1; omega
  generalize x - ((x.toUInt32 >>> ((1 : Int32).toUInt32 &&& Int32.toUInt32 31)).toInt32 &&& 1431655765) = y at a2 ⊢
  generalize hc0 : pc1 b0 = c0 at a2 q0
  generalize hc1 : pc1 b1 = c1 at a2 q1
  generalize hc2 : pc1 b2 = c2 at a2 q2
  have a3 : tbN (y &&& 858993459) = (c0 &&& 51) + 256 * (c1 &&& 51) + 65536 * (c2 &&& 51) := by
    rw [tb_and, a2, show tbN 858993459 = 51 + 256 * 51 + 65536 * 51 + 16777216 * 51 from rfl, and_24 q0 q1 q2 (by decide)]
  have a4 : tbN ((y.toUInt32 >>> ((2 : Int32).toUInt32 &&& Int32.toUInt32 31)).toInt32 &&& 858993459) = ((c0 / 4) &&& 51) + 256 * ((c1 / 4) &&& 51) + 65536 * ((c2 / 4) &&& 51) := by
    rw [tb_and, show (2 : Int32) = nI 2 from rfl, tb_ushr (by decide), a2, show tbN 858993459 = 51 + 256 * 51 + 65536 * 51 + 16777216 * 51 from rfl]
    rw [show (c0 + 256 * c1 + 65536 * c2) / 2 ^ 2 = (c0 / 4 + 64 * (c1 % 4)) + 256 * (c1 / 4 + 64 * (c2 % 4)) + 65536 * (c2 / 4 + 64 * 0) by omega, and_24 (by omega) (by omega) (by omega) (by decide), pc_c c0 q0 _ (by omega), pc_c c1 q1 _ (by omega), pc_c c2 q2 _ (by decide)]
  have e0 := pc_e c0 q0
  have e1 := pc_e c1 q1
  have e2 := pc_e c2 q2
  have a5 : tbN ((y &&& 858993459) + ((y.toUInt32 >>> ((2 : Int32).toUInt32 &&& Int32.toUInt32 31)).toInt32 &&& 858993459)) = pc2 c0 + 256 * pc2 c1 + 65536 * pc2 c2 := by
    rw [tb_add (by rw [a3, a4]; omega), a3, a4]; unfold pc2; omega
  generalize (y &&& 858993459) + ((y.toUInt32 >>> ((2 : Int32).toUInt32 &&& Int32.toUInt32 31)).toInt32 &&& 858993459) = z at a5 ⊢
  rw [hc0] at r0 s0
  rw [hc1] at r1 s1
  rw [hc2] at r2 s2
  unfold pcB at t0 t1 t2
  rw [hc0] at t0
  rw [hc1] at t1
  rw [hc2] at t2
  have goal2 : pcB b0 + pcB b1 + pcB b2 = pc3 (pc2 c0) + pc3 (pc2 c1) + pc3 (pc2 c2) := by unfold pcB; rw [hc0, hc1, hc2]
  rw [goal2]
  generalize pc2 c0 = d0 at a5 r0 s0 t0 ⊢
  generalize pc2 c1 = d1 at a5 r1 s1 t1 ⊢
  generalize pc2 c2 = d2 at a5 r2 s2 t2 ⊢
  have a6 : tbN ((z + (z.toUInt32 >>> ((4 : Int32).toUInt32 &&& Int32.toUInt32 31)).toInt32) &&& 252645135) = pc3 d0 + 256 * pc3 d1 + 65536 * pc3 d2 := by
    have u : tbN (z.toUInt32 >>> ((4 : Int32).toUInt32 &&& Int32.toUInt32 31)).toInt32 = (d0 + 256 * d1 + 65536 * d2) / 16 := by rw [show (4 : Int32) = nI 4 from rfl, tb_ushr (by decide), a5]
    rw [tb_and, tb_add (by rw [a5, u]; omega), a5, u, show tbN 252645135 = 15 + 256 * 15 + 65536 * 15 + 16777216 * 15 from rfl]
    rw [show d0 + 256 * d1 + 65536 * d2 + (d0 + 256 * d1 + 65536 * d2) / 16 = (d0 + d0 / 16 + 16 * (d1 % 16)) + 256 * (d1 + d1 / 16 + 16 * (d2 % 16)) + 65536 * (d2 + d2 / 16 + 16 * 0) by omega, and_24 (by omega) (by omega) (by omega) (by decide), pc_d d0 (by omega) _ (by omega), pc_d d1 (by omega) _ (by omega), pc_d d2 (by omega) _ (by decide)]
    rfl
  generalize (z + (z.toUInt32 >>> ((4 : Int32).toUInt32 &&& Int32.toUInt32 31)).toInt32) &&& 252645135 = w at a6 ⊢
  generalize pc3 d0 = g0 at a6 t0 ⊢
  generalize pc3 d1 = g1 at a6 t1 ⊢
  generalize pc3 d2 = g2 at a6 t2 ⊢
  have u8 : tbN (w.toUInt32 >>> ((8 : Int32).toUInt32 &&& Int32.toUInt32 31)).toInt32 = (g0 + 256 * g1 + 65536 * g2) / 256 := by rw [show (8 : Int32) = nI 8 from rfl, tb_ushr (by decide), a6]
  have a7 : tbN (w + (w.toUInt32 >>> ((8 : Int32).toUInt32 &&& Int32.toUInt32 31)).toInt32) = g0 + 256 * g1 + 65536 * g2 + (g1 + 256 * g2) := by
    rw [tb_add (by rw [a6, u8]; omega), a6, u8]; omega
  generalize w + (w.toUInt32 >>> ((8 : Int32).toUInt32 &&& Int32.toUInt32 31)).toInt32 = v at a7 ⊢
  have u16 : tbN (v.toUInt32 >>> ((16 : Int32).toUInt32 &&& Int32.toUInt32 31)).toInt32 = g2 := by rw [show (16 : Int32) = nI 16 from rfl, tb_ushr (by decide), a7]; omega
  refine tb_ext ?_
  rw [tb_nI (by omega), tb_and, tb_add (by rw [a7, u16]; omega), a7, u16, show tbN 63 = 2 ^ 6 - 1 from rfl, Nat.and_two_pow_sub_one_eq_mod]
  omega
theorem cnt_24 {N : Nat} (hN : N < 2 ^ 24) : cntN N 24 = cntN (N % 256) 8 + cntN (N / 256 % 256) 8 + cntN (N / 65536) 8 := by
  simp only [cntN]
  have q : ∀ j, j < 8 → N / 2 ^ j % 2 = N % 256 / 2 ^ j % 2 ∧ N / 2 ^ (8 + j) % 2 = N / 256 % 256 / 2 ^ j % 2 ∧ N / 2 ^ (16 + j) % 2 = N / 65536 / 2 ^ j % 2 := by
    intro j hj
    rcases (show j = 0 ∨ j = 1 ∨ j = 2 ∨ j = 3 ∨ j = 4 ∨ j = 5 ∨ j = 6 ∨ j = 7 by omega) with h | h | h | h | h | h | h | h <;> subst h <;> (refine ⟨?_, ?_, ?_⟩ <;> omega)
  have q0 := q 0 (by decide)
  have q1 := q 1 (by decide)
  have q2 := q 2 (by decide)
  have q3 := q 3 (by decide)
  have q4 := q 4 (by decide)
  have q5 := q 5 (by decide)
  have q6 := q 6 (by decide)
  have q7 := q 7 (by decide)
  simp only [Nat.reduceAdd] at q0 q1 q2 q3 q4 q5 q6 q7
  omega
theorem cnt_hi {N n : Nat} (hN : N < 2 ^ n) : ∀ j, cntN N (n + j) = cntN N n
  | 0 => rfl
  | j + 1 => by
    show cntN N (n + j) + N / 2 ^ (n + j) % 2 = _
    rw [cnt_hi hN j, Nat.div_eq_of_lt (Nat.lt_of_lt_of_le hN (Nat.pow_le_pow_right (by decide) (Nat.le_add_right n j)))]; rfl
theorem bits_hi {x : Int32} {n : Nat} (hN : tbN x < 2 ^ n) : ∀ j, n + j ≤ 32 → bitsL x (n + j) = bitsL x n
  | 0, _ => rfl
  | j + 1, h => by
    show (if bitI x (n + j) = 1 then bitsL x (n + j) ++ [n + j] else bitsL x (n + j)) = _
    rw [if_neg, bits_hi hN j (by omega)]
    intro c
    have := (tb_bit (by omega)).mp c
    rw [Nat.div_eq_of_lt (Nat.lt_of_lt_of_le hN (Nat.pow_le_pow_right (by decide) (Nat.le_add_right n j)))] at this
    exact absurd this (by decide)
theorem bc_len {x : Int32} (h : tbN x < 2 ^ 24) : bcE x = nI (bitsL x 32).length := by
  rw [swar h rfl rfl rfl x rfl, bits_cnt 32 (Nat.le_refl _), show (32 : Nat) = 24 + 8 from rfl, cnt_hi h 8, cnt_24 h, (pc_b _ (by omega)).2.2.2.2.2, (pc_b _ (by omega)).2.2.2.2.2, (pc_b _ (by omega)).2.2.2.2.2]
theorem bits_mem {x : Int32} {b : Nat} : ∀ n, b ∈ bitsL x n ↔ b < n ∧ bitI x b = 1
  | 0 => by simp [bitsL]
  | n + 1 => by
    show b ∈ (if bitI x n = 1 then bitsL x n ++ [n] else bitsL x n) ↔ _
    by_cases c : bitI x n = 1
    · rw [if_pos c, List.mem_append, bits_mem n, List.mem_singleton]
      constructor
      · rintro (h | h)
        · exact ⟨by omega, h.2⟩
        · subst h; exact ⟨by omega, c⟩
      · intro h
        by_cases e : b = n
        · exact Or.inr e
        · exact Or.inl ⟨by omega, h.2⟩
    · rw [if_neg c, bits_mem n]
      constructor
      · intro h; exact ⟨by omega, h.2⟩
      · intro h
        by_cases e : b = n
        · subst e; exact absurd h.2 c
        · exact ⟨by omega, h.2⟩
theorem tb_hi {x : Int32} {n : Nat} (hn : n ≤ 32) (h : ∀ b, b ∈ bitsL x 32 → b < n) : tbN x < 2 ^ n := by
  refine Nat.lt_pow_two_of_testBit _ fun i hi => ?_
  by_cases h32 : i < 32
  · rw [Nat.testBit_eq_decide_div_mod_eq]
    refine decide_eq_false fun c => ?_
    have := h i ((bits_mem 32).mpr ⟨h32, (tb_bit h32).mpr c⟩)
    omega
  · exact Nat.testBit_lt_two_pow (Nat.lt_of_lt_of_le (tb_lt x) (Nat.pow_le_pow_right (by decide) (by omega)))
theorem bits_lt {x : Int32} {n : Nat} (h : tbN x < 2 ^ n) : ∀ b, b ∈ bitsL x 32 → b < n := fun b hb => by
  obtain ⟨h1, h2⟩ := (bits_mem 32).mp hb
  have h3 := (tb_bit h1).mp h2
  refine Nat.lt_of_not_le fun q => ?_
  rw [Nat.div_eq_of_lt (Nat.lt_of_lt_of_le h (Nat.pow_le_pow_right (by decide) q))] at h3
  exact absurd h3 (by decide)
theorem ush_0 {x : Int32} {n : Nat} (hn : n < 32) : (x.toUInt32 >>> ((nI n).toUInt32 &&& Int32.toUInt32 31)).toInt32 = 0 ↔ tbN x < 2 ^ n := by
  have h := tb_ushr hn x
  constructor
  · intro e
    rw [e, show tbN 0 = 0 from rfl] at h
    have h2 := Nat.div_add_mod (tbN x) (2 ^ n)
    have h3 := Nat.mod_lt (tbN x) (Nat.two_pow_pos n)
    rw [← h, Nat.mul_zero, Nat.zero_add] at h2
    omega
  · intro e
    rw [Nat.div_eq_of_lt e] at h
    exact tb_ext h
theorem bits_0 {x : Int32} : ∀ n, x = 0 → bitsL x n = []
  | 0, _ => rfl
  | n + 1, h => by
    show (if bitI x n = 1 then bitsL x n ++ [n] else bitsL x n) = _
    rw [if_neg, bits_0 n h]
    subst h
    intro c
    unfold bitI at c
    have e : tbN ((0 >>> (nI n &&& 31)) &&& 1 : Int32) = tbN 1 := congrArg tbN c
    have : (0 : Int32) >>> (nI n &&& 31) = 0 := Int32.toBitVec_inj.mp (by rw [Int32.toBitVec_shiftRight]; show (0#32).sshiftRight _ = 0#32; exact BitVec.zero_sshiftRight)
    rw [this] at e
    exact absurd e (by decide)
theorem bits_ne {x : Int32} (h : ¬ x = 0) : 1 ≤ (bitsL x 32).length := by
  refine Nat.pos_of_ne_zero fun e => h ?_
  have e2 : bitsL x 32 = [] := List.length_eq_zero_iff.mp e
  refine tb_ext (show tbN x = 0 from ?_)
  have := tb_hi (x := x) (n := 0) (by decide) (fun b hb => by rw [e2] at hb; cases hb)
  omega

/-! Lessons of all; orders carried out. -/
theorem laS_v {pp : Nat → Int32} {dd : Nat → UInt64} : ∀ n x y v, laS pp dd n = some (x, y, v) → ∃ j, j ≤ n ∧ v = nI j
  | 0, x, y, v, h => by cases h; exact ⟨0, Nat.le_refl _, rfl⟩
  | n + 1, x, y, v, h => by
    unfold laS at h
    cases e : laS pp dd n with
    | none => rw [e] at h; cases h
    | some z =>
      obtain ⟨a, b, v1⟩ := z
      obtain ⟨j, hj, ev⟩ := laS_v n a b v1 e
      rw [e] at h
      dsimp only at h
      split at h
      · cases h; exact ⟨j, by omega, ev⟩
      · split at h
        · cases h; exact ⟨j, by omega, ev⟩
        · split at h
          · cases h
          · cases h
            unfold fdI
            split
            · exact ⟨j, by omega, by rw [ev]; exact Int32.add_zero _⟩
            · exact ⟨j + 1, by omega, by rw [ev]; exact ix_add rfl rfl⟩
theorem nI_m1 {j : Nat} (h : j < 1000) : ¬ nI j = -1 := fun e => nI_pos (n := j) (by omega) (by rw [e]; decide)
theorem laS_m {pp x : Nat → Int32} {dd y : Nat → UInt64} {cn : Nat} {v : Int32} (h : laS pp dd cn = some (x, y, v)) (hcn : cn ≤ 20 := by assumption) : ¬ v = -1 := by
  obtain ⟨j, hj, e⟩ := laS_v cn x y v h
  rw [e]; exact nI_m1 (by omega)
theorem h22l {pp p9 : Nat → Int32} {dd d9 : Nat → UInt64} {cn r9 rg : Nat} {r : Int32} (h : laS pp dd cn = some (p9, d9, r) ∧ (p9 22 = 0 ∨ (p9 = pp ∧ r9 = rg))) (h2 : pp 22 = 0 ∨ pp 22 = 1) : p9 22 = 0 ∨ p9 22 = 1 := h.2.elim Or.inl (fun z => by rw [z.1]; exact h2)
theorem nI_inj9 {a b : Nat} (h : nI a = nI b) (ha : a < 2 ^ 31) (hb : b < 2 ^ 31) : a = b := (nI_eq ha hb).mp h
theorem doO_K {pp : Nat → Int32} {dd : Nat → UInt64} {tx : Nat → Int32} {L i : Nat} {f1 f2 f3 : Int32} (h : roK tx L i f1 f2 f3) : doO pp dd (tx i) f1 f2 f3 = doO pp dd (tx i) (roF tx L i).2.2.1 (roF tx L i).2.2.2.1 (roF tx L i).2.2.2.2 := by
  obtain ⟨h1, h2, h3, h4⟩ := h
  unfold doO
  by_cases c1 : tx i = 97
  · rw [if_pos c1, if_pos c1, h1 c1]
  · rw [if_neg c1, if_neg c1]
    by_cases c2 : tx i = 108
    · rw [if_pos c2, if_pos c2]
    · rw [if_neg c2, if_neg c2]
      by_cases c3 : tx i = 115
      · rw [if_pos c3, if_pos c3, (h3 c3).1, (h3 c3).2]
      · rw [if_neg c3, if_neg c3]
        have c4 : tx i = 98 := by rcases h4 with z | z | z | z <;> first | exact z | exact absurd z c1 | exact absurd z c2 | exact absurd z c3
        rw [(h2 c4).1, (h2 c4).2.1, (h2 c4).2.2]
section COD
variable {pv x : Nat → Int32} {dv y : Nat → UInt64} {kd f1 f2 f3 : Int32} {cm c9 r9 rv : Nat}
theorem do_20 (hc : pv 20 = nI cm) (hcm : cm ≤ 20) (hok : okO kd f1 f2 f3) (h : doO pv dv kd f1 f2 f3 = some (x, y)) : x 20 = (if kd = 115 then nI (cm + 1) else nI cm) ∧ (kd = 115 → cm < 20) := by
  unfold doO at h
  by_cases c1 : kd = 97
  · rw [if_pos c1] at h
    rw [if_neg (by rw [c1]; decide)]
    split at h
    · cases h
    · rename_i hb
      split at h
      · cases h
      · split at h
        · cases h
        · split at h
          · cases h
          · cases h
            refine ⟨?_, fun z => absurd (c1.symm.trans z) (by decide)⟩
            have hk : f1.toInt.toNat < 20 := by
              have h2 := Int32.not_le.mp hb
              rw [hc, Int32.lt_iff_toInt_lt, nI_toInt (by omega)] at h2
              omega
            rw [goP_20 hk]; exact hc
  · rw [if_neg c1] at h
    by_cases c2 : kd = 108
    · rw [if_pos c2] at h
      rw [if_neg (by rw [c2]; decide)]
      split at h
      · cases h
      · cases h
        exact ⟨(leP_o (by decide)).trans hc, fun z => absurd (c2.symm.trans z) (by decide)⟩
    · rw [if_neg c2] at h
      by_cases c3 : kd = 115
      · rw [if_pos c3] at h
        rw [if_pos c3]
        split at h
        · cases h
        · rename_i hb
          cases h
          have hlt : cm < 20 := by
            have h2 := Int32.not_le.mp hb
            rw [hc] at h2
            exact nI_lt_of (b := 20) h2 (by omega) (by decide)
          refine ⟨?_, fun _ => hlt⟩
          rw [hc, nI_tn (by omega)]
          exact adP_20
      · rw [if_neg c3] at h
        rw [if_neg c3]
        cases h
        refine ⟨?_, fun z => absurd z c3⟩
        obtain ⟨a, b, ha, hb, ea, eb⟩ := hok.2.1 (okO_b hok c1 c2 c3)
        have hi : 4 * f1.toInt.toNat + f2.toInt.toNat < 8 := by rw [ea, eb, nI_tn (by omega), nI_tn (by omega)]; omega
        exact (bdP_o (j := 20) hi (by decide)).trans hc
theorem co_20 (hc : pv 20 = nI cm) (hcm : cm ≤ 20) (hok : okO kd f1 f2 f3) (h : doO pv dv kd f1 f2 f3 = some (x, y)) (e : c9 = if kd = 115 then cm + 1 else cm) : x 20 = nI c9 := by
  rw [(do_20 hc hcm hok h).1, e]; split <;> rfl
theorem co_le (hc : pv 20 = nI cm) (hcm : cm ≤ 20) (hok : okO kd f1 f2 f3) (h : doO pv dv kd f1 f2 f3 = some (x, y)) (e : c9 = if kd = 115 then cm + 1 else cm) : c9 ≤ 20 := by
  rw [e]; split
  · rename_i q; have := (do_20 hc hcm hok h).2 q; omega
  · exact hcm
theorem ad_rg {z h : Int32} {n j : Nat} (hj : j < n) (hn : n < 20) : rgS (adP pv n z h) j = rgS pv j := by
  have e1 : azS (adP pv n z h) j = azS pv j := by unfold azS adP; simp (disch := omega) only [pk_un]
  have e2 : alS (adP pv n z h) j = alS pv j := by unfold alS adP; simp (disch := omega) only [pk_un]
  unfold rgS; rw [e1, e2]
theorem bd_rg {v : Int32} {i j : Nat} (hi : i < 8) : rgS (bdP pv i v) j = rgS pv j := by
  have e1 : azS (bdP pv i v) j = azS pv j := by unfold azS bdP; simp (disch := omega) only [pk_un]
  have e2 : alS (bdP pv i v) j = alS pv j := by unfold alS bdP; simp (disch := omega) only [pk_un]
  unfold rgS; rw [e1, e2]
theorem go_rg {k j : Nat} (hj : j < 20) : rgS (goP pv dv k) j = rgS pv j := by
  unfold rgS; rw [az_go hj, al_go hj]
theorem co_rg {f1' : Int32} (hc : pv 20 = nI cm) (hcm : cm ≤ 20) (hs22 : ¬ pv 22 = 0 → ∃ k, k < cm ∧ pv 21 = nI k) (hok : okO kd f1 f2 f3) (hrv : ¬ pv 22 = 0 → rv = rgS pv (pv 21).toInt.toNat) (h : doO pv dv kd f1 f2 f3 = some (x, y)) (e : r9 = if kd = 97 then rgS pv f1'.toInt.toNat else rv) (hf : kd = 97 → f1' = f1) : ¬ x 22 = 0 → r9 = rgS x (x 21).toInt.toNat := by
  intro hx
  rw [e]
  unfold doO at h
  by_cases c1 : kd = 97
  · rw [if_pos c1] at h ⊢
    rw [hf c1]
    split at h
    · cases h
    · rename_i hb
      split at h
      · cases h
      · split at h
        · cases h
        · split at h
          · cases h
          · cases h
            have hk : f1.toInt.toNat < 20 := by
              have h2 := Int32.not_le.mp hb
              rw [hc, Int32.lt_iff_toInt_lt, nI_toInt (by omega)] at h2
              omega
            rw [goP_21, nI_tn (by omega), go_rg hk]
  · rw [if_neg c1] at h ⊢
    by_cases c2 : kd = 108
    · rw [if_pos c2] at h
      split at h
      · cases h
      · cases h
        exact absurd leP_22 hx
    · rw [if_neg c2] at h
      by_cases c3 : kd = 115
      · rw [if_pos c3] at h
        split at h
        · cases h
        · rename_i hb
          cases h
          have hlt : cm < 20 := by
            have h2 := Int32.not_le.mp hb
            rw [hc] at h2
            exact nI_lt_of (b := 20) h2 (by omega) (by decide)
          rw [hc, nI_tn (by omega)] at hx ⊢
          rw [adP_o (j := 22) (by decide) (by decide)] at hx
          rw [adP_o (j := 21) (by decide) (by decide)]
          obtain ⟨j, hj, ej⟩ := hs22 hx
          rw [hrv hx, ej, nI_tn (by omega), ad_rg hj hlt]
      · rw [if_neg c3] at h
        have c4 := okO_b hok c1 c2 c3
        obtain ⟨a, b, ha, hb, ea, eb⟩ := hok.2.1 c4
        have hi : 4 * f1.toInt.toNat + f2.toInt.toNat < 8 := by rw [ea, eb, nI_tn (by omega), nI_tn (by omega)]; omega
        cases h
        rw [bdP_o (j := 22) hi (by decide)] at hx
        rw [bdP_o (j := 21) hi (by decide), bd_rg hi]
        exact hrv hx
end COD
theorem prs_le0 {tx : Nat → Int32} {L : Nat} (hL : L ≤ 100) : ∀ n i z, prsN tx L n i = some z → z ≤ 100
  | 0, i, z, h => by cases h
  | n + 1, i, z, h => by
    unfold prsN at h
    split at h
    · rename_i hi
      cases e : (roF tx L i).2.1 with
      | none => rw [e] at h; exact prs_le0 hL n _ z h
      | some q => rw [e] at h; cases h; exact roF_er hL hi z e
    · cases h
theorem prs_le {tx : Nat → Int32} {L : Nat} (hL : L ≤ 100) (z : Nat) (h : prsN tx L 100 0 = some z) : z ≤ 100 := prs_le0 hL 100 0 z h

/-! The states between two calls: all that is asked of them. -/
theorem ab_nat {x : Int32} {M : Nat} (hM : M < 2 ^ 30) (h : -(M : Int) ≤ x.toInt ∧ x.toInt ≤ (M : Int)) : ∃ n, n ≤ M ∧ absI x = nI n := by
  have k0 : (0 : Int32).toInt = 0 := rfl
  unfold absI
  by_cases c : 0 ≤ x
  · rw [if_pos c]
    rw [Int32.le_iff_toInt_le, k0] at c
    exact ⟨x.toInt.toNat, by omega, nI_of_toInt c⟩
  · rw [if_neg c]
    rw [Int32.le_iff_toInt_le, k0] at c
    refine ⟨(-x.toInt).toNat, by omega, i32_eq ?_⟩
    rw [Jvm.Kit.i32_sub (by rw [k0]; omega) (by rw [k0]; omega), k0, nI_toInt (by omega)]
    omega
theorem mx_nat {a b : Nat} (ha : a < 2 ^ 31) (hb : b < 2 ^ 31) : ∃ n, (n = a ∨ n = b) ∧ mxI (nI a) (nI b) = nI n := by
  unfold mxI
  split
  · exact ⟨b, Or.inr rfl, rfl⟩
  · exact ⟨a, Or.inl rfl, rfl⟩
theorem du_nat {n : Nat} {sp : Int32} (hn : n < 2 ^ 20) (hs : 1 ≤ sp.toInt ∧ sp.toInt ≤ 600) : ∃ v, v ≤ n ∧ divUp (nI n) sp = nI v := by
  have e : sp = nI sp.toInt.toNat := nI_of_toInt (by omega)
  have hb : 1 ≤ sp.toInt.toNat ∧ sp.toInt.toNat ≤ 600 := by omega
  have c : 1 ≤ sp := Int32.le_iff_toInt_le.mpr hs.1
  generalize sp.toInt.toNat = b at e hb
  unfold divUp
  rw [if_pos c]
  refine ⟨(n + b - 1) / b, ?_, ix_div (ix_sub (ix_add rfl e) (b := 1) rfl (by omega)) e (by omega) (by omega) (by omega)⟩
  refine Nat.le_of_lt_succ ((Nat.div_lt_iff_lt_mul (by omega)).mpr ?_)
  have h9 : n * 1 ≤ n * b := Nat.mul_le_mul_left _ hb.1
  have e9 : (n + 1) * b = n * b + b := Nat.succ_mul n b
  show n + b - 1 < (n + 1) * b
  rw [e9]
  omega
theorem sl_nat {tt hh sd t h s0 sp : Int32} (h1 : -16200 ≤ tt.toInt ∧ tt.toInt ≤ 16200) (h2 : -16200 ≤ t.toInt ∧ t.toInt ≤ 16200) (h3 : 0 ≤ hh.toInt ∧ hh.toInt ≤ 5400) (h4 : 0 ≤ h.toInt ∧ h.toInt ≤ 5400) (hs : 1 ≤ sp.toInt ∧ sp.toInt ≤ 600) : ∃ v, v ≤ 40000 ∧ slF tt hh sd t h s0 sp = nI v := by
  have e1 : (tt - t).toInt = tt.toInt - t.toInt := Jvm.Kit.i32_sub (by omega) (by omega)
  have e2 : (hh - h).toInt = hh.toInt - h.toInt := Jvm.Kit.i32_sub (by omega) (by omega)
  obtain ⟨a, a1, a2⟩ := ab_nat (x := tt - t) (M := 32400) (by decide) (by omega)
  obtain ⟨b, b1, b2⟩ := ab_nat (x := hh - h) (M := 5400) (by decide) (by omega)
  obtain ⟨m, m1, m2⟩ := mx_nat (a := a) (b := b) (by omega) (by omega)
  obtain ⟨v, v1, v2⟩ := du_nat (n := m) (sp := sp) (by omega) hs
  have e : tmF tt hh t h sp = nI v := by unfold tmF; rw [a2, b2, m2, v2]
  unfold slF
  rw [e]
  split
  · exact ⟨v, by omega, rfl⟩
  · exact ⟨v + 60, by omega, nI_add v 60⟩
theorem tm_nat {p : Nat → Int32} {d : Nat → UInt64} (f : Nat → Nat) (h0 : 1 ≤ (p 0).toInt ∧ (p 0).toInt ≤ 600) (h13 : -16200 ≤ (p 13).toInt ∧ (p 13).toInt ≤ 16200) (h14 : 0 ≤ (p 14).toInt ∧ (p 14).toInt ≤ 5400) : ∀ n, n ≤ 5 → (∃ v, v ≤ 40000 * n ∧ (tmS p d f n).1 = nI v) ∧ (-16200 ≤ (tmS p d f n).2.1.toInt ∧ (tmS p d f n).2.1.toInt ≤ 16200) ∧ 0 ≤ (tmS p d f n).2.2.1.toInt ∧ (tmS p d f n).2.2.1.toInt ≤ 5400
  | 0, _ => ⟨⟨0, Nat.le_refl _, rfl⟩, h13, h14⟩
  | n + 1, hn => by
    obtain ⟨⟨v, v1, v2⟩, g1, g2⟩ := tm_nat f h0 h13 h14 n (by omega)
    have hz := cmF_toInt (azS p (f n) - rndF (plA p d (f n)))
    have z1 := Int.emod_nonneg (azS p (f n) - rndF (plA p d (f n))).toInt (show (21600 : Int) ≠ 0 by decide)
    have z2 := Int.emod_lt_of_pos (azS p (f n) - rndF (plA p d (f n))).toInt (show (0 : Int) < 21600 by decide)
    have hZ : 0 ≤ (plZ p d (f n)).toInt ∧ (plZ p d (f n)).toInt < 21600 := by
      show 0 ≤ (cmF (azS p (f n) - rndF (plA p d (f n)))).toInt ∧ (cmF (azS p (f n) - rndF (plA p d (f n)))).toInt < 21600
      omega
    have hn2 := nt_rng (x := (tmS p d f n).2.1) hZ
    have hT : 0 ≤ (plT p d (f n)).toInt ∧ (plT p d (f n)).toInt ≤ 5400 := (hg_rng (alS p (f n) - rndF (plH p d (f n)))).1
    obtain ⟨w, w1, w2⟩ := sl_nat (sd := nI (sdS p (f n))) (s0 := (tmS p d f n).2.2.2) (sp := p 0) hn2 g1 hT g2 h0
    refine ⟨⟨v + w, by omega, ?_⟩, hn2, hT⟩
    show (tmS p d f n).1 + slF (ntF (tmS p d f n).2.1 (plZ p d (f n))) (plT p d (f n)) (nI (sdS p (f n))) (tmS p d f n).2.1 (tmS p d f n).2.2.1 (tmS p d f n).2.2.2 (p 0) = _
    rw [v2, w2]; exact nI_add v w
section QJ2
variable {cn t : Nat} {p : Nat → Int32} {d : Nat → UInt64}
theorem qj_st_ok (h : qjS cn t p d) (ht : t ≤ JT) : stOK p d cn := by
  have h5 := h.1.2.2.2.2.1
  refine ⟨h.1.1.2, h.1.1.1, h5, fun k hk => (pl_ok h.1 h.2.1 ht (h5 k hk)).1, Int32.le_iff_toInt_le.mpr h.1.2.1.1.1, fun k hk => ?_, fun z => ?_, fun z => ?_⟩
  · obtain ⟨-, -, -, q3, q4, -⟩ := pl_ok h.1 h.2.1 ht (h5 k hk)
    exact sz_ok q3.1.1 q3.2 q4.1.1 q4.2
  · obtain ⟨k, k1, k2, -⟩ := h.2.2 z
    exact ⟨k, k1, k2⟩
  · obtain ⟨k, k1, k2, -⟩ := h.2.2 z
    have := h.1.1.1
    rw [k2, nI_tn (by omega)]
    exact le_ok h.2.1 (rgN_lt (h5 k k1))
theorem qj_do {kd f1 f2 f3 : Int32} {p2 : Nat → Int32} {e2 : Nat → UInt64} (h : qjS cn t p d) (ht : t ≤ JT) (ho : okO kd f1 f2 f3) (e : doO p d kd f1 f2 f3 = some (p2, e2)) : ∃ c2, qjS c2 (t + 1) p2 e2 := by
  have hcn := h.1.1.1
  unfold doO at e
  by_cases c1 : kd = 97
  · rw [if_pos c1] at e
    obtain ⟨k, k1, k2⟩ := ho.1 c1
    split at e
    · cases e
    · rename_i q0
      split at e
      · cases e
      · split at e
        · cases e
        · split at e
          · cases e
          · rw [h.1.1.2, k2] at q0
            have hk := nI_nle_of q0 (by omega) (by omega)
            rw [k2, nI_tn (by omega)] at e
            cases e
            exact ⟨cn, qjS_up (qj_go h ht hk) (by omega)⟩
  · rw [if_neg c1] at e
    by_cases c2 : kd = 108
    · rw [if_pos c2] at e
      split at e
      · cases e
      · rename_i q0
        cases e
        exact ⟨cn, qj_le h ht q0⟩
    · rw [if_neg c2] at e
      by_cases c3 : kd = 115
      · rw [if_pos c3] at e
        split at e
        · cases e
        · rename_i q0
          rw [h.1.1.2] at q0
          have hk := nI_nle_of (a := 20) q0 (by omega) (by omega)
          rw [h.1.1.2, nI_tn (by omega)] at e
          cases e
          exact ⟨cn + 1, qjS_up (qj_ad h (ho.2.2.2.1 c3) hk) (by omega)⟩
      · rw [if_neg c3] at e
        have c4 := okO_b ho c1 c2 c3
        obtain ⟨x, y, x1, y1, x2, y2⟩ := ho.2.1 c4
        obtain ⟨v1, v2⟩ := ho.2.2.1 c4
        rw [Int32.le_iff_toInt_le, show (-120 : Int32).toInt = -120 from rfl] at v1
        rw [Int32.le_iff_toInt_le, show (120 : Int32).toInt = 120 from rfl] at v2
        rw [x2, y2, nI_tn (by omega), nI_tn (by omega)] at e
        cases e
        exact ⟨cn, qjS_up (qj_bd h (by omega) ⟨v1, v2⟩) (by omega)⟩
theorem qj_0 : qjS 0 0 pI zD := by
  have z : qzB 0 FP.dconst0 ∧ qzZ FP.dconst0 := ⟨qz_zero, by show ¬ FP.dconst0 = 0x8000000000000000; decide +kernel⟩
  have e1 : ∀ i, i < 8 → -120 ≤ (pI (5 + i)).toInt ∧ (pI (5 + i)).toInt ≤ 120 := by decide +kernel
  have e2 : ∀ k, k < 20 → pI (25 + 4 * k) = 0 ∧ pI (26 + 4 * k) = 0 := by decide +kernel
  have e3 : ∀ r, r < 24 → pI (103 + r) = 0 := by decide +kernel
  refine ⟨⟨⟨by decide +kernel, by decide +kernel⟩, by decide +kernel, e1, by decide +kernel, fun k hk => absurd hk (Nat.not_lt_zero _), fun k _ hk => e2 k hk, ⟨by decide +kernel, by decide +kernel⟩, Or.inl (by decide +kernel), fun r hr => ⟨0, Nat.le_refl _, e3 r hr⟩⟩, ⟨fun j _ => ⟨qzB_up z.1 (Nat.zero_le _), z.2⟩, fun j _ => ⟨qzB_up z.1 (Nat.zero_le _), z.2⟩⟩, fun h => absurd (by decide +kernel) h⟩
end QJ2

/-! What a telescope of the law keeps: counts, limits, time. -/
def sumN (a : Nat → Nat) : Nat → Nat
  | 0 => 0
  | n + 1 => sumN a n + a n
def kC (cn t : Nat) (p : Nat → Int32) : Prop := ∃ a f : Nat → Nat, (∀ k, k < 20 → p (25 + 4 * k) = nI (a k) ∧ p (26 + 4 * k) = nI (f k) ∧ f k ≤ a k) ∧ (∀ k, cn ≤ k → k < 20 → a k = 0) ∧ sumN a cn ≤ t ∧ ∃ fl, p 19 = nI fl ∧ fl ≤ sumN a cn
def kX (cn t : Nat) (p : Nat → Int32) : Prop := (¬ p 4 < p 3 ∧ ∀ j, j < 5 → ¬ p j < 0) ∧ (0 ≤ (p 16).toInt ∧ (p 16).toInt ≤ 1000000) ∧ kC cn t p ∧ (p 21 = -1 → (∀ k, k < 20 → p (25 + 4 * k) = 0) ∧ p 22 = 0) ∧ (¬ p 21 = -1 → ∃ k, k < cn ∧ p 21 = nI k)
def kJ (cn t : Nat) (p : Nat → Int32) (d : Nat → UInt64) : Prop := qjS cn t p d ∧ kX cn t p
section KINV
variable {cn t k n : Nat} {p p2 x : Nat → Int32} {d e2 y : Nat → UInt64}
theorem sumN_le {a : Nat → Nat} : ∀ n k, k < n → a k ≤ sumN a n
  | 0, k, h => absurd h (Nat.not_lt_zero _)
  | n + 1, k, h => by
    show a k ≤ sumN a n + a n
    by_cases c : k = n
    · subst c; omega
    · have := sumN_le (a := a) n k (by omega); omega
theorem sumN_ext {a b : Nat → Nat} : ∀ n, (∀ j, j < n → a j = b j) → sumN a n = sumN b n
  | 0, _ => rfl
  | n + 1, h => by show sumN a n + a n = sumN b n + b n; rw [sumN_ext n (fun j hj => h j (by omega)), h n (by omega)]
theorem sumN_add {a : Nat → Nat} {e : Nat} : ∀ n, k < n → sumN (fun j => if j = k then a j + e else a j) n = sumN a n + e
  | 0, h => absurd h (Nat.not_lt_zero _)
  | n + 1, h => by
    show sumN (fun j => if j = k then a j + e else a j) n + (if n = k then a n + e else a n) = sumN a n + a n + e
    by_cases c : n = k
    · subst c
      rw [if_pos rfl, sumN_ext n (b := a) (fun j hj => if_neg (by omega))]; omega
    · rw [if_neg c, sumN_add n (by omega)]; omega
theorem sumI_nI {f : Nat → Int32} {a : Nat → Nat} : ∀ n, (∀ j, j < n → f j = nI (a j)) → sumI f n = nI (sumN a n)
  | 0, _ => rfl
  | n + 1, h => by
    show sumI f n + f n = nI (sumN a n + a n)
    rw [sumI_nI n (fun j hj => h j (by omega)), h n (by omega)]; exact nI_add _ _
theorem sumI_p4 {lo : Nat} {a : Nat → Nat} (hn : n ≤ 20) (h : ∀ j, j < 20 → p (lo + 4 * j) = nI (a j)) : sumI (p4 p lo 20) n = nI (sumN a n) :=
  sumI_nI n (fun j hj => by rw [p4_at (by omega)]; exact h j (by omega))
theorem kC_up {u : Nat} (h : kC cn t p) (hu : t ≤ u) : kC cn u p := by
  obtain ⟨a, f, h1, h2, h3, h4⟩ := h
  exact ⟨a, f, h1, h2, by omega, h4⟩
theorem kX_up {u : Nat} (h : kX cn t p) (hu : t ≤ u) : kX cn u p := ⟨h.1, h.2.1, kC_up h.2.2.1 hu, h.2.2.2⟩
theorem kJ_up {u : Nat} (h : kJ cn t p d) (hu : t ≤ u) : kJ cn u p d := ⟨qjS_up h.1 hu, kX_up h.2 hu⟩
/-- the numbers behind 13 stay -/
theorem kX_hi (h : kX cn t p) (h1 : ¬ p2 4 < p2 3 ∧ ∀ j, j < 5 → ¬ p2 j < 0) (h2 : ∀ j, 13 ≤ j → j < 103 → p2 j = p j) (hcn : cn ≤ 20) : kX cn t p2 := by
  obtain ⟨_, b, ⟨a, f, c1, c2, c3, fl, c4, c5⟩, e, g⟩ := h
  refine ⟨h1, by rw [h2 16 (by decide) (by decide)]; exact b, ⟨a, f, fun k hk => ?_, c2, c3, fl, by rw [h2 19 (by decide) (by decide)]; exact c4, c5⟩, fun z => ?_, fun z => ?_⟩
  · rw [h2 (25 + 4 * k) (by omega) (by omega), h2 (26 + 4 * k) (by omega) (by omega)]; exact c1 k hk
  · rw [h2 21 (by decide) (by decide)] at z
    rw [h2 22 (by decide) (by decide)]
    exact ⟨fun k hk => by rw [h2 (25 + 4 * k) (by omega) (by omega)]; exact (e z).1 k hk, (e z).2⟩
  · rw [h2 21 (by decide) (by decide)] at z
    obtain ⟨k, k1, k2⟩ := g z
    exact ⟨k, k1, by rw [h2 21 (by decide) (by decide)]; exact k2⟩
theorem sl_ok (hA : qjA cn t p) (k : Nat) : ∃ v, v ≤ 40000 ∧ slN p d k = nI v := by
  have hz := cmF_toInt (azS p k - rndF (plA p d k))
  have z1 := Int.emod_nonneg (azS p k - rndF (plA p d k)).toInt (show (21600 : Int) ≠ 0 by decide)
  have z2 := Int.emod_lt_of_pos (azS p k - rndF (plA p d k)).toInt (show (0 : Int) < 21600 by decide)
  have hZ : 0 ≤ (plZ p d k).toInt ∧ (plZ p d k).toInt < 21600 := by
    show 0 ≤ (cmF (azS p k - rndF (plA p d k))).toInt ∧ (cmF (azS p k - rndF (plA p d k))).toInt < 21600
    omega
  have hT : 0 ≤ (plT p d k).toInt ∧ (plT p d k).toInt ≤ 5400 := (hg_rng (alS p k - rndF (plH p d k))).1
  exact sl_nat (nt_rng hZ) hA.2.2.2.1.1 hT hA.2.2.2.1.2 hA.2.1.1
theorem fd_nat : ∃ e, e ≤ 1 ∧ fdI p d k = nI e := by
  unfold fdI; split
  · exact ⟨0, by decide, rfl⟩
  · exact ⟨1, by decide, rfl⟩
theorem go_at (hk : k < 20) : goP p d k (25 + 4 * k) = p (25 + 4 * k) + 1 ∧ goP p d k (26 + 4 * k) = p (26 + 4 * k) + fdI p d k := by
  unfold goP; constructor <;> simp (disch := omega) only [pk_un, pk_us]
theorem kj_go (h : kJ cn t p d) (ht : t ≤ JT) (hk : k < cn) (hc : cpP p d k) : kJ cn (t + 1) (goP p d k) (goD p d k) := by
  obtain ⟨hS, h1, h2, ⟨a, f, c1, c2, c3, fl, c4, c5⟩, h3, h4⟩ := h
  have hcn := hS.1.1.1
  have hk20 : k < 20 := by omega
  unfold JT at ht
  refine ⟨qjS_up (qj_go hS (by unfold JT; omega) hk) (by omega), ?_, ?_, ?_, ?_, ?_⟩
  · exact ⟨by rw [goP_o (by decide), goP_o (by decide)]; exact h1.1, fun j hj => by rw [goP_o (by omega)]; exact h1.2 j hj⟩
  · obtain ⟨v, v1, v2⟩ := sl_ok (d := d) hS.1 k
    have e := nI_of_toInt h2.1
    have hb := hc.2
    rw [goP_16, v2, e, nI_add, nI_toInt (by omega)]
    rw [v2, e, nI_add, Int32.lt_iff_toInt_lt, nI_toInt (by omega), show (1000000 : Int32).toInt = 1000000 from rfl] at hb
    omega
  · obtain ⟨e, e1, e3⟩ := fd_nat (p := p) (d := d) (k := k)
    refine ⟨fun j => if j = k then a j + 1 else a j, fun j => if j = k then f j + e else f j, fun j hj => ?_, fun j hj hj2 => ?_, ?_, ?_⟩
    · by_cases c : j = k
      · subst c
        obtain ⟨q1, q2, q3⟩ := c1 j hj
        have z := go_at (p := p) (d := d) hk20
        rw [z.1, z.2, q1, q2, e3]
        dsimp only
        rw [if_pos rfl, if_pos rfl]
        exact ⟨nI_add _ 1, nI_add _ _, by omega⟩
      · have z := go_ne (p := p) (d := d) (k := k) c hj
        rw [z.1, z.2]
        dsimp only
        rw [if_neg c, if_neg c]
        exact c1 j hj
    · dsimp only; rw [if_neg (by omega)]; exact c2 j hj hj2
    · rw [sumN_add cn hk]; omega
    · rw [sumN_add cn hk, goP_19, c4]
      split
      · exact ⟨fl, Int32.add_zero _, by omega⟩
      · exact ⟨fl + 1, nI_add fl 1, by omega⟩
  · intro z; rw [goP_21] at z; exact absurd z (nI_m1 (by omega))
  · intro _; exact ⟨k, hk, goP_21⟩
theorem kj_le (h : kJ cn t p d) (ht : t ≤ JT) (h22 : ¬ p 22 = 0) : kJ cn (t + 1) (leP p (rgS p (p 21).toInt.toNat)) (leD p d (rgS p (p 21).toInt.toNat)) := by
  obtain ⟨hS, h1, h2, ⟨a, f, c1, c2, c3, fl, c4, c5⟩, h3, h4⟩ := h
  have hcn := hS.1.1.1
  have h21 : ¬ p 21 = -1 := fun z => h22 (h3 z).2
  refine ⟨qj_le hS ht h22, ?_, ?_, ⟨a, f, fun j hj => ?_, c2, by omega, fl, ?_, c5⟩, ?_, ?_⟩
  · exact ⟨by rw [leP_lo (by decide) (by decide), leP_lo (by decide) (by decide)]; exact h1.1, fun j hj => by rw [leP_lo (by omega) (by omega)]; exact h1.2 j hj⟩
  · rw [leP_lo (by decide) (by decide)]; exact h2
  · rw [leP_lo (by omega) (by omega), leP_lo (by omega) (by omega)]; exact c1 j hj
  · rw [leP_lo (by decide) (by decide)]; exact c4
  · intro z; rw [leP_lo (by decide) (by decide)] at z; exact absurd z h21
  · intro _; rw [leP_lo (by decide) (by decide)]; exact h4 h21
theorem kj_ad {z g : Int32} (h : kJ cn t p d) (hz : inS z g) (hc : cn < 20) : kJ (cn + 1) t (adP p cn z g) d := by
  obtain ⟨hS, h1, h2, ⟨a, f, c1, c2, c3, fl, c4, c5⟩, h3, h4⟩ := h
  have st : ∀ j, j ≠ 20 → j ≠ 23 + 4 * cn → j ≠ 24 + 4 * cn → adP p cn z g j = p j := fun j q1 q2 q3 => by
    unfold adP; simp (disch := omega) only [pk_un]
  have e : sumN a (cn + 1) = sumN a cn := by show sumN a cn + a cn = _; rw [c2 cn (Nat.le_refl _) hc]; rfl
  refine ⟨qj_ad hS hz hc, ?_, ?_, ⟨a, f, fun j hj => ?_, fun j q1 q2 => c2 j (by omega) q2, by rw [e]; exact c3, fl, ?_, by rw [e]; exact c5⟩, ?_, ?_⟩
  · exact ⟨by rw [st 3 (by decide) (by omega) (by omega), st 4 (by decide) (by omega) (by omega)]; exact h1.1, fun j hj => by rw [st j (by omega) (by omega) (by omega)]; exact h1.2 j hj⟩
  · rw [st 16 (by decide) (by omega) (by omega)]; exact h2
  · rw [st _ (by omega) (by omega) (by omega), st _ (by omega) (by omega) (by omega)]; exact c1 j hj
  · rw [st 19 (by decide) (by omega) (by omega)]; exact c4
  · intro q
    rw [st 21 (by decide) (by omega) (by omega)] at q
    rw [st 22 (by decide) (by omega) (by omega)]
    exact ⟨fun j hj => by rw [st _ (by omega) (by omega) (by omega)]; exact (h3 q).1 j hj, (h3 q).2⟩
  · intro q
    rw [st 21 (by decide) (by omega) (by omega)] at q
    obtain ⟨j, j1, j2⟩ := h4 q
    exact ⟨j, by omega, by rw [st 21 (by decide) (by omega) (by omega)]; exact j2⟩
theorem kj_bd {i : Nat} {v : Int32} (h : kJ cn t p d) (hi : i < 8) (hv : -120 ≤ v.toInt ∧ v.toInt ≤ 120) : kJ cn t (bdP p i v) d := by
  have e : ∀ j, j ≠ 5 + i → bdP p i v j = p j := fun j hj => pk_un hj
  exact ⟨qj_bd h.1 hi hv, kX_hi h.2 ⟨by rw [e 3 (by omega), e 4 (by omega)]; exact h.2.1.1, fun j hj => by rw [e j (by omega)]; exact h.2.1.2 j hj⟩ (fun j q1 _ => e j (by omega)) h.1.1.1.1⟩
theorem kj_st {x9 v : Int32} (h : kJ cn t p d) (hc : cdSet p x9 v = 0) : kJ cn t (stP p x9.toInt.toNat v) d := by
  have hk := cdSet_k hc
  have e : ∀ j, j ≠ x9.toInt.toNat → stP p x9.toInt.toNat v j = p j := fun j hj => pk_un hj
  have e0 : stP p x9.toInt.toNat v x9.toInt.toNat = v := pk_us
  have hv : vaS x9 v := Classical.byContradiction fun z => by rw [cdSet_1 z] at hc; exact absurd hc (by decide)
  refine ⟨qj_st h.1 hc, kX_hi h.2 ⟨?_, fun j hj => ?_⟩ (fun j q1 _ => e j (by omega)) h.1.1.1.1⟩
  rotate_left
  · by_cases c : j = x9.toInt.toNat
    · subst c
      rw [e0]
      intro z
      refine hv.2.1 (Int32.lt_of_lt_of_le z ?_)
      unfold loS; split <;> decide
    · rw [e j c]; exact h.2.1.2 j hj
  obtain ⟨⟨x1, x2⟩, v1, v2⟩ := hv
  have k0 : (0 : Int32).toInt = 0 := rfl
  have hx0 : 0 ≤ x9.toInt := by rw [Int32.lt_iff_toInt_lt, k0] at x1; omega
  unfold cdSet at hc
  rw [if_neg x1, if_neg x2, if_neg v1, if_neg v2] at hc
  by_cases c3 : x9 = 3
  · rw [if_pos c3] at hc
    subst c3
    rw [e 4 (by decide), show stP p (3 : Int32).toInt.toNat v 3 = v from e0]
    intro z
    split at hc
    · exact absurd hc (by decide)
    · rename_i q; exact q z
  · rw [if_neg c3] at hc
    have n3 : x9.toInt.toNat ≠ 3 := fun q => c3 (Int32.toInt_inj.mp (by rw [show (3 : Int32).toInt = 3 from rfl]; omega))
    by_cases c4 : x9 = 4
    · rw [if_pos c4] at hc
      subst c4
      rw [e 3 (by decide), show stP p (4 : Int32).toInt.toNat v 4 = v from e0]
      intro z
      split at hc
      · exact absurd hc (by decide)
      · rename_i q; exact q z
    · have n4 : x9.toInt.toNat ≠ 4 := fun q => c4 (Int32.toInt_inj.mp (by rw [show (4 : Int32).toInt = 4 from rfl]; omega))
      rw [e 3 (fun q => n3 q.symm), e 4 (fun q => n4 q.symm)]
      exact h.2.1.1
theorem kj_fg (h : kJ cn t p d) (hk : k < 24) : kJ cn t (fgP p k) (fgD d k) := by
  have e : ∀ j, j ≠ 103 + k → fgP p k j = p j := fun j hj => pk_un hj
  exact ⟨qj_fg h.1 hk, kX_hi h.2 ⟨by rw [e 3 (by omega), e 4 (by omega)]; exact h.2.1.1, fun j hj => by rw [e j (by omega)]; exact h.2.1.2 j hj⟩ (fun j _ q => e j (by omega)) h.1.1.1.1⟩
theorem kj_la (h : kJ cn t p d) (ht : t + 2 * cn ≤ JT) : ∀ n, n ≤ cn → ∀ (x : Nat → Int32) (y : Nat → UInt64) (v : Int32), laS p d n = some (x, y, v) → kJ cn (t + 2 * n) x y
  | 0, _, x, y, v, e => by cases e; exact h
  | n + 1, hn, x, y, v, e => by
    unfold laS at e
    cases e9 : laS p d n with
    | none => rw [e9] at e; cases e
    | some z =>
      obtain ⟨a, b, v1⟩ := z
      have ih := kj_la h ht n (by omega) a b v1 e9
      rw [e9] at e
      dsimp only at e
      split at e
      · cases e; exact kJ_up ih (by omega)
      · rename_i q1
        split at e
        · cases e; exact kJ_up ih (by omega)
        · rename_i q2
          split at e
          · cases e
          · rename_i q3
            cases e
            have hcn := h.1.1.1.1
            have g := kj_go (k := n) ih (by omega) (by omega) ⟨⟨q1, q2⟩, q3⟩
            have l := kj_le g (by omega) (by rw [goP_22]; decide)
            rw [rg_go (i := n) (by omega)] at l
            exact kJ_up l (by omega)
theorem kj_0 : kJ 0 0 pI zD := by
  refine ⟨qj_0, by decide +kernel, by decide +kernel, ⟨fun _ => 0, fun _ => 0, fun k hk => ?_, fun _ _ _ => rfl, Nat.le_refl _, 0, by decide +kernel, Nat.le_refl _⟩, fun _ => ⟨?_, by decide +kernel⟩, fun z => absurd (by decide +kernel) z⟩
  · have e : ∀ k, k < 20 → pI (25 + 4 * k) = 0 ∧ pI (26 + 4 * k) = 0 := by decide +kernel
    exact ⟨(e k hk).1, (e k hk).2, Nat.le_refl _⟩
  · decide +kernel
/-! what the checks ask of a state -/
theorem sz_nn {a b : UInt64} (fa : qzF a) (za : qzZ a) (fb : qzF b) (zb : qzZ b) : 0 ≤ qzV (szF a b) ∧ qzN (szF a b) := by
  obtain ⟨a1, a2, a3, -⟩ := abs_ok fa za
  obtain ⟨b1, b2, b3, -⟩ := abs_ok fb zb
  unfold szF
  split
  · exact ⟨FP.Core.zval_nonneg (qz_fn b1) b3, qz_fn b1⟩
  · exact ⟨FP.Core.zval_nonneg (qz_fn a1) a3, qz_fn a1⟩
theorem dg_nn {v : UInt64} (h : 0 ≤ qzV v) (hn : qzN v) : ¬ Op.cmpValue (FP.dcmp v FP.dconst0) .g < 0 := by
  rcases qz_cmp hn qz_v0.1 with ⟨z, _⟩ | ⟨_, z⟩ | ⟨_, z⟩
  · rw [qz_v0.2] at z; omega
  · rw [z]; decide
  · rw [z]; decide
theorem qz0_cmp {v : UInt64} (h : qzB 0 v) : Op.cmpValue (FP.dcmp v FP.dconst0) .l = 0 := by
  have h1 := h.2.1
  have h2 := h.2.2
  simp at h1 h2
  rcases qz_cmp (qz_fn h.1) qz_v0.1 with ⟨z, _⟩ | ⟨_, z⟩ | ⟨z, _⟩
  · rw [qz_v0.2] at z; omega
  · rw [z]; rfl
  · rw [qz_v0.2] at z; omega
theorem rnd_0 : rndF FP.dconst0 = 0 := by decide +kernel
theorem bn_0 {pp : Nat → Int32} {i : Nat} {h : Int32} (h0 : pp (5 + i) = 0) (h1 : pp (5 + (i + 1)) = 0) (hh : 0 ≤ h.toInt ∧ h.toInt ≤ 5400) : qzB 0 (bnF pp i h) := by
  have b0 := qzB_i (x := pp (5 + i)) (k := 0) (by rw [h0]; decide)
  have b1 := qzB_i (x := pp (5 + (i + 1))) (k := 0) (by rw [h1]; decide)
  have b2 := qzB_i (x := h) (k := 5400) (by omega)
  have m := qzB_mulB b1 b2 (by decide)
  have d := qzB_div (M := 0) m.1 qz_5400 (by decide) (by decide) (by have := m.2; simp at this; simp; exact this)
  have a := qzB_add b0 d (by decide)
  unfold bnF
  exact a
theorem pl_plain (hA : qjA cn t p) (hD : qjD t d) (ht : t ≤ JT) (hk : k < cn) (h1 : cntI (pg p 103 24) 24 = 0) (h2 : ∀ i, i < 8 → p (5 + i) = 0) : Op.cmpValue (FP.dcmp (szF (plMA p d k) (plMH p d k)) FP.dconst0) .l = 0 := by
  have hz := hA.2.2.2.2.1 k hk
  have eN : ∀ r, srcN (pg p 103 24) r 24 = none := fun r => src_cnt.mpr h1
  have eA : plA p d k = FP.dconst0 := hld_no (eN _)
  have eH : plH p d k = FP.dconst0 := hld_no (eN _)
  have eT : plT p d k = alS p k := by
    show hgF (alS p k - rndF (plH p d k)) = _
    rw [eH, rnd_0, Int32.sub_zero]
    refine (hg_2 ?_ ?_).symm
    · rw [Int32.le_iff_toInt_le, show (0 : Int32).toInt = 0 from rfl]; exact hz.2.1
    · rw [Int32.le_iff_toInt_le, show (5400 : Int32).toInt = 5400 from rfl]; exact hz.2.2
  have hs : sdS p k < 2 := sdN_lt (azS p k)
  have b1 := bn_0 (pp := p) (i := 4 * sdS p k + 0) (h := plT p d k) (h2 _ (by omega)) (h2 _ (by omega)) (by rw [eT]; exact hz.2)
  have b2 := bn_0 (pp := p) (i := 4 * sdS p k + 2) (h := plT p d k) (h2 _ (by omega)) (h2 _ (by omega)) (by rw [eT]; exact hz.2)
  have i0 : qzB 0 (FP.i2d 0) := qzB_i (by decide)
  have mA : qzB 0 (plMA p d k) := by
    show qzB 0 (FP.dadd (FP.i2d (-(rndF (plA p d k)))) (bnF p (4 * sdS p k + 0) (plT p d k)))
    rw [eA, rnd_0]
    exact qzB_add (j := 0) (k := 0) i0 b1 (by decide)
  have mH : qzB 0 (plMH p d k) := by
    show qzB 0 (FP.dadd (FP.i2d (plT p d k - alS p k)) (bnF p (4 * sdS p k + 2) (plT p d k)))
    rw [show plT p d k - alS p k = 0 by rw [eT]; exact Int32.sub_self _]
    exact qzB_add (j := 0) (k := 0) i0 b2 (by decide)
  obtain ⟨-, -, -, q3, q4, -⟩ := pl_ok hA hD ht hz
  exact qz0_cmp (qzB_sz mA q3.2 mH q4.2).1
theorem kj_sth (h : kJ cn t p d) (ht : t ≤ JT) : stH p d cn := by
  obtain ⟨hS, h1, h2, ⟨a, f, c1, c2, c3, fl, c4, c5⟩, h3, h4⟩ := h
  have hcn := hS.1.1.1
  have hz := hS.1.2.2.2.2.1
  have hpl := fun k hk => pl_ok hS.1 hS.2.1 ht (hz k hk)
  have hs5 : sumI (p4 p 25 20) cn = nI (sumN a cn) := sumI_p4 hcn (fun j hj => (c1 j hj).1)
  unfold JT at ht
  refine ⟨⟨hz, fun k hk => (hpl k hk).1⟩, fun x hx z _ => ?_, fun k hk => ?_, fun k hk => ?_, fun k hk => ?_, fun q1 q2 k hk => pl_plain hS.1 hS.2.1 (by unfold JT; omega) hk q1 q2, ?_, ?_, h1.1, fun z => ⟨?_, (h3 z).2⟩, fun _ => ?_, ?_⟩
  · obtain ⟨⟨v, v1, v2⟩, -⟩ := tm_nat (p := p) (d := d) (fun j => meL (bitsL x 32) (dgN (bitsL x 32).length z j)) hS.1.2.1.1 hS.1.2.2.2.1.1 hS.1.2.2.2.1.2 (bitsL x 32).length hx.1.2
    show 0 ≤ (tmS p d (fun j => meL (bitsL x 32) (dgN (bitsL x 32).length z j)) (bitsL x 32).length).1
    have := hx.1.2
    rw [v2, Int32.le_iff_toInt_le, nI_toInt (by omega)]
    exact Int.natCast_nonneg _
  · obtain ⟨v, v1, v2⟩ := sl_ok (d := d) hS.1 k
    rw [v2]; exact nI_pos (by omega)
  · obtain ⟨-, -, -, q3, q4, -⟩ := hpl k hk
    have z := sz_nn q3.1.1 q3.2 q4.1.1 q4.2
    exact dg_nn z.1 z.2
  · obtain ⟨q1, q2, q3⟩ := c1 k (by omega)
    have q4 := sumN_le (a := a) cn k hk
    rw [q1, q2]
    exact fun z => by have := nI_lt_of z (by omega) (by omega); omega
  · have q := hS.1.2.2.2.1.1
    rw [Int32.lt_iff_toInt_lt, Int32.lt_iff_toInt_lt, show (-16200 : Int32).toInt = -16200 from rfl, show (16200 : Int32).toInt = 16200 from rfl]
    omega
  · have q := hS.1.2.2.2.1.2
    rw [Int32.lt_iff_toInt_lt, Int32.lt_iff_toInt_lt, show (0 : Int32).toInt = 0 from rfl, show (5400 : Int32).toInt = 5400 from rfl]
    omega
  · have e := sumI_p4 (n := cn) (lo := 25) (a := fun _ => 0) hcn (fun j hj => (h3 z).1 j hj)
    have e0 : ∀ n, sumN (fun _ => 0) n = 0 := fun n => by
      induction n with
      | zero => rfl
      | succ n ih => show sumN (fun _ => 0) n + 0 = 0; rw [ih]
    rw [e, e0]; rfl
  · have m0 := hS.2.1.2 48 (by decide)
    have m1 := hS.2.1.2 49 (by decide)
    exact ⟨qz_fn (qzB_abs m0.1 m0.2).1.1, qz_fn (qzB_abs m1.1 m1.2).1.1⟩
  · rw [hs5, c4]
    exact fun z => by have := nI_lt_of z (by omega) (by omega); omega
/-- what the regions' check asks -/
theorem kj_reg (h : kJ cn t p d) (ht : t ≤ JT) : (∀ r, r < 24 → ¬ p (103 + r) < 0) ∧ ∀ w r, w < 2 → r < 24 → qzN (hldF (pg p 103 24) (d2 d w 24) r) := by
  unfold JT at ht
  refine ⟨fun r hr => ?_, fun w r hw _ => qz_fn (hld_ok (le := pg p 103 24) (r := r) h.1.2.1 hw).1.1⟩
  obtain ⟨L, l1, l2⟩ := h.1.1.2.2.2.2.2.2.2.2 r hr
  rw [l2]; exact nI_pos (by omega)
end KINV

/-! Stars: the nearest, the tour of one star, what is found. -/
theorem bo_0 {P : Prop} {v : Int32} (h : (v = 1 ∧ P) ∨ (v = 0 ∧ ¬ P)) (e : v = 0) : ¬ P := h.elim (fun z => absurd (z.1.symm.trans e) (by decide)) (fun z => z.2)
theorem bo_1 {P : Prop} {v : Int32} (h : (v = 1 ∧ P) ∨ (v = 0 ∧ ¬ P)) (e : ¬ v = 0) : P := h.elim (fun z => z.2) (fun z => absurd z.1 e)
theorem ne2 {P R : Prop} {v w : Int32} (h1 : (v = 1 ∧ P) ∨ (v = 0 ∧ ¬ P)) (h2 : (w = 1 ∧ R) ∨ (w = 0 ∧ ¬ R)) (h : P ↔ ¬ R) : ¬ v = w := fun e => by
  rcases h1 with ⟨rfl, a⟩ | ⟨rfl, a⟩ <;> rcases h2 with ⟨b, c⟩ | ⟨b, c⟩ <;> rw [b] at e
  · exact h.mp a c
  · exact absurd e (by decide)
  · exact absurd e (by decide)
  · exact a (h.mpr c)
theorem ex_noS {P : Nat → Prop} {s : Nat} (h1 : ¬ ∃ i, i < s ∧ P i) (h2 : ¬ P s) : ¬ ∃ i, i < s + 1 ∧ P i := fun ⟨i, a, b⟩ => by
  by_cases c : i = s
  · subst c; exact h2 b
  · exact h1 ⟨i, by omega, b⟩
section KS
variable {pp : Nat → Int32} {dd : Nat → UInt64} {cn s : Nat}
theorem nr_no : ∀ n, nrN pp dd n = none → ∀ j, j < n → ¬ wiP pp j
  | 0, h, j, hj => absurd hj (Nat.not_lt_zero _)
  | n + 1, h, j, hj => by
    by_cases c : wiP pp n
    · cases h2 : nrN pp dd n with
      | none => rw [nrN_1 c h2] at h; cases h
      | some z =>
        by_cases hl : slN pp dd n < slN pp dd z
        · rw [nrN_2 c h2 hl] at h; cases h
        · rw [nrN_3 c h2 hl] at h; cases h
    · rw [nrN_out c] at h
      by_cases e : j = n
      · subst e; exact c
      · exact nr_no n h j (by omega)
theorem nr_min : ∀ n b, nrN pp dd n = some b → wiP pp b ∧ ∀ j, j < n → wiP pp j → ¬ slN pp dd j < slN pp dd b ∧ (slN pp dd b = slN pp dd j → b ≤ j)
  | 0, b, h => by cases h
  | n + 1, b, h => by
    by_cases c : wiP pp n
    · cases h2 : nrN pp dd n with
      | none =>
        rw [nrN_1 c h2] at h; cases h
        refine ⟨c, fun j hj hw => ?_⟩
        by_cases e : j = n
        · subst e; exact ⟨Int32.lt_irrefl, fun _ => Nat.le_refl _⟩
        · exact absurd hw (nr_no n h2 j (by omega))
      | some z =>
        have ih := nr_min n z h2
        have hz := nrN_lt h2
        by_cases hl : slN pp dd n < slN pp dd z
        · rw [nrN_2 c h2 hl] at h; cases h
          refine ⟨c, fun j hj hw => ?_⟩
          by_cases e : j = n
          · subst e; exact ⟨Int32.lt_irrefl, fun _ => Nat.le_refl _⟩
          · have h3 := (ih.2 j (by omega) hw).1
            refine ⟨fun q => h3 (Int32.lt_trans q hl), fun q => absurd (q ▸ hl) h3⟩
        · rw [nrN_3 c h2 hl] at h; cases h
          refine ⟨ih.1, fun j hj hw => ?_⟩
          by_cases e : j = n
          · subst e; exact ⟨hl, fun _ => by omega⟩
          · exact ih.2 j (by omega) hw
    · rw [nrN_out c] at h
      have ih := nr_min n b h
      refine ⟨ih.1, fun j hj hw => ?_⟩
      by_cases e : j = n
      · subst e; exact absurd hw c
      · exact ih.2 j (by omega) hw
theorem nr_none : nrN pp dd s = none ↔ ¬ ∃ i, i < s ∧ wiP pp i := by
  constructor
  · rintro h ⟨i, a, b⟩; exact nr_no s h i a b
  · intro h
    cases e : nrN pp dd s with
    | none => rfl
    | some b => exact absurd ⟨b, nrN_lt e, (nr_min s b e).1⟩ h
theorem nr_m1 (hcn : cn ≤ 20) (h : optI (nrN pp dd cn) = -1) : nrN pp dd cn = none := oN (fun b e => by have := nrN_lt e; omega) h
theorem one_bits : ∀ s, s < 20 → bitsL (1 <<< (nI s &&& 31)) 32 = [s] := by decide +kernel
theorem to1_ok (hcn : cn ≤ 20) (hs : s < cn) : okT (1 <<< (nI s &&& 31)) cn := by
  unfold okT; rw [one_bits s (by omega)]
  exact ⟨fun b hb => by rw [List.mem_singleton.mp hb]; exact hs, (show 1 ≤ 5 by decide)⟩
theorem to1_le (hcn : cn ≤ 20) (hs : s < cn) : 1 ≤ (bitsL (1 <<< (nI s &&& 31)) 32).length := by rw [one_bits s (by omega)]; exact (show 1 ≤ 1 by decide)
theorem to1_B (hcn : cn ≤ 20) (hs : s < cn) : toB pp dd (1 <<< (nI s &&& 31)) = 0 := by
  refine toB_e ?_
  rw [one_bits s (by omega)]
  show bcN 1 _ 1 = some 0
  exact bc_1 (by decide) rfl
theorem to1_S (hcn : cn ≤ 20) (hs : s < cn) : toS pp dd (1 <<< (nI s &&& 31)) = slN pp dd s := by
  unfold toS
  rw [to1_B hcn hs, one_bits s (by omega)]
  show (0 : Int32) + slN pp dd s = slN pp dd s
  exact Int32.zero_add _
theorem to1_P (hcn : cn ≤ 20) (hs : s < cn) : toP pp dd (1 <<< (nI s &&& 31)) 0 = s := by
  unfold toP
  rw [to1_B hcn hs, one_bits s (by omega)]; rfl
theorem sd_div {a h : Int32} (z : inS a h) : sdF a = a / 10800 := by
  obtain ⟨⟨a1, a2⟩, -⟩ := z
  have k : (10800 : Int32).toInt = 10800 := rfl
  rw [nI_of_toInt a1, show (nI a.toInt.toNat) / 10800 = nI (a.toInt.toNat / 10800) from ix_div (b := 10800) rfl rfl (by omega) (by decide) (by decide)]
  unfold sdF
  split
  · rename_i c
    rw [Int32.le_iff_toInt_le, k, nI_toInt (by omega)] at c
    rw [show a.toInt.toNat / 10800 = 1 by omega]; rfl
  · rename_i c
    rw [Int32.le_iff_toInt_le, k, nI_toInt (by omega)] at c
    rw [show a.toInt.toNat / 10800 = 0 by omega]; rfl
theorem gr_a {x y : UInt64} (hx : qzN (absF x)) (c : ¬ Op.cmpValue (FP.dcmp (absF x) (absF y)) .l ≤ 0) : Op.cmpValue (FP.dcmp (szF x y) (absF x)) .l = 0 := by
  unfold szF; rw [if_neg (fun z => c (Int32.le_of_lt z))]; exact dc_rfl hx
theorem gr_b {x y : UInt64} (hx : qzN (absF x)) (hy : qzN (absF y)) (c : Op.cmpValue (FP.dcmp (absF x) (absF y)) .l ≤ 0) : Op.cmpValue (FP.dcmp (szF x y) (absF y)) .l = 0 := by
  unfold szF
  split
  · exact dc_rfl hy
  · rename_i z; exact Int32.le_antisymm c (Int32.not_lt.mp z)
/-- what the checks of all stars rest on -/
def stH (pp : Nat → Int32) (dd : Nat → UInt64) (cn : Nat) : Prop :=
  ((∀ k, k < cn → inS (azS pp k) (alS pp k)) ∧ (∀ k, k < cn → plOK pp dd k)) ∧
  (∀ x, okT x cn ∧ 1 ≤ (bitsL x 32).length → ∀ z, isP (bitsL x 32).length z → 0 ≤ tmC pp dd (meL (bitsL x 32)) (bitsL x 32).length z) ∧
  (∀ k, k < cn → ¬ slN pp dd k < 0) ∧ (∀ k, k < cn → ¬ Op.cmpValue (FP.dcmp (szF (plMA pp dd k) (plMH pp dd k)) FP.dconst0) .g < 0) ∧
  (∀ k, k < cn → ¬ pp (25 + 4 * k) < pp (26 + 4 * k)) ∧
  (cntI (pg pp 103 24) 24 = 0 → (∀ i, i < 8 → pp (5 + i) = 0) → ∀ k, k < cn → Op.cmpValue (FP.dcmp (szF (plMA pp dd k) (plMH pp dd k)) FP.dconst0) .l = 0) ∧
  (¬ pp 13 < -16200 ∧ ¬ 16200 < pp 13) ∧ (¬ pp 14 < 0 ∧ ¬ 5400 < pp 14) ∧ ¬ pp 4 < pp 3 ∧
  (pp 21 = -1 → sumI (p4 pp 25 20) cn = 0 ∧ pp 22 = 0) ∧ (¬ pp 21 = -1 → qzN (absF (dd 48)) ∧ qzN (absF (dd 49))) ∧ ¬ sumI (p4 pp 25 20) cn < pp 19
end KS

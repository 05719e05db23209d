/-! The law's own words: what its small methods say, what the readers say at a number. -/
def lowN (v : Int32) (n : Nat) : Nat := tbN (v &&& 2147483647) % n
theorem low_ne {n : Nat} (h1 : 1 ≤ n) (h2 : n < 2 ^ 31) : ¬ nI n = 0 := fun e => by have := nI_eq0 e h2; omega
theorem low_a (v : Int32) : v &&& 2147483647 = nI (tbN (v &&& 2147483647)) ∧ tbN (v &&& 2147483647) < 2 ^ 31 := by
  have h : tbN (v &&& 2147483647) < 2 ^ 31 := by
    rw [tb_and, show tbN 2147483647 = 2 ^ 31 - 1 from rfl, Nat.and_two_pow_sub_one_eq_mod]; exact Nat.mod_lt _ (by decide)
  exact ⟨tb_ext (tb_nI (by omega)).symm, h⟩
theorem low_e {v : Int32} {n : Nat} (h1 : 1 ≤ n) (h2 : n < 2 ^ 31) : (v &&& 2147483647) - (v &&& 2147483647) / (nI n) * (nI n) = nI (lowN v n) := ix_rem (low_a v).1 rfl (low_a v).2 (by omega) h2
theorem low_lt {v : Int32} {n : Nat} (h1 : 1 ≤ n) : lowN v n < n := Nat.mod_lt _ (by omega)
def apO (a b : Int32) : Int32 := if b / 3 ≤ a / 3 then a / 3 - b / 3 else b / 3 - a / 3
def apR (a b : Int32) : Int32 := if b - b / 3 * 3 ≤ a - a / 3 * 3 then (a - a / 3 * 3) - (b - b / 3 * 3) else (b - b / 3 * 3) - (a - a / 3 * 3)
def apI (a b : Int32) : Int32 := (if apO a b ≤ 4 then apO a b else 8 - apO a b) + apR a b
theorem ap_all : ∀ i, i < 24 → ∀ k, k < 24 → apI (nI i) (nI k) = nI (dsN i k) := by decide +kernel
def lrI (pp : Nat → Int32) : Int32 := if pp 22 = 0 then 0 else 1
def wiI (pp : Nat → Int32) (k : Nat) : Int32 := if pp (24 + 4 * k) < pp 3 then 0 else if pp 4 < pp (24 + 4 * k) then 0 else 1
section KM
variable {pp : Nat → Int32} {dd : Nat → UInt64} {cn k : Nat}
theorem nb_0 : nbF pp cn (nI 0) = nI cn := if_pos (by decide)
theorem nb_1 : nbF pp cn (nI 1) = (pp 13) := by unfold nbF; rw [if_neg (by decide), if_pos (by decide)]
theorem nb_2 : nbF pp cn (nI 2) = (pp 14) := by unfold nbF; rw [if_neg (by decide), if_neg (by decide), if_pos (by decide)]
theorem nb_3 : nbF pp cn (nI 3) = (pp 15) := by unfold nbF; rw [if_neg (by decide), if_neg (by decide), if_neg (by decide), if_pos (by decide)]
theorem nb_4 : nbF pp cn (nI 4) = (pp 16) := by unfold nbF; rw [if_neg (by decide), if_neg (by decide), if_neg (by decide), if_neg (by decide), if_pos (by decide)]
theorem nb_5 : nbF pp cn (nI 5) = (sumI (p4 pp 25 20) cn) := by unfold nbF; rw [if_neg (by decide), if_neg (by decide), if_neg (by decide), if_neg (by decide), if_neg (by decide), if_pos (by decide)]
theorem nb_6 : nbF pp cn (nI 6) = (sumI (p4 pp 26 20) cn) := by unfold nbF; rw [if_neg (by decide), if_neg (by decide), if_neg (by decide), if_neg (by decide), if_neg (by decide), if_neg (by decide), if_pos (by decide)]
theorem nb_7 : nbF pp cn (nI 7) = (pp 19) := by unfold nbF; rw [if_neg (by decide), if_neg (by decide), if_neg (by decide), if_neg (by decide), if_neg (by decide), if_neg (by decide), if_neg (by decide), if_pos (by decide)]
theorem nb_8 : nbF pp cn (nI 8) = (sumI (pg pp 103 24) 24) := by unfold nbF; rw [if_neg (by decide), if_neg (by decide), if_neg (by decide), if_neg (by decide), if_neg (by decide), if_neg (by decide), if_neg (by decide), if_neg (by decide), if_pos (by decide)]
theorem nb_9 : nbF pp cn (nI 9) = (cntI (pg pp 103 24) 24) := by unfold nbF; rw [if_neg (by decide), if_neg (by decide), if_neg (by decide), if_neg (by decide), if_neg (by decide), if_neg (by decide), if_neg (by decide), if_neg (by decide), if_neg (by decide), if_pos (by decide)]
theorem nb_10 : nbF pp cn (nI 10) = (pp 21) := by unfold nbF; rw [if_neg (by decide), if_neg (by decide), if_neg (by decide), if_neg (by decide), if_neg (by decide), if_neg (by decide), if_neg (by decide), if_neg (by decide), if_neg (by decide), if_neg (by decide), if_pos (by decide)]
theorem nb_11 : nbF pp cn (nI 11) = (lrI pp) := by unfold nbF; rw [if_neg (by decide), if_neg (by decide), if_neg (by decide), if_neg (by decide), if_neg (by decide), if_neg (by decide), if_neg (by decide), if_neg (by decide), if_neg (by decide), if_neg (by decide), if_neg (by decide)]; rfl
theorem sf_0 : sfF pp k (nI 0) = (pp (23 + 4 * k)) := by unfold sfF; rw [if_pos (by decide)]
theorem sf_1 : sfF pp k (nI 1) = (pp (24 + 4 * k)) := by unfold sfF; rw [if_neg (by decide), if_pos (by decide)]
theorem sf_2 : sfF pp k (nI 2) = (sdF (pp (23 + 4 * k))) := by unfold sfF; rw [if_neg (by decide), if_neg (by decide), if_pos (by decide)]
theorem sf_3 : sfF pp k (nI 3) = (rgF (pp (23 + 4 * k)) (pp (24 + 4 * k))) := by unfold sfF; rw [if_neg (by decide), if_neg (by decide), if_neg (by decide), if_pos (by decide)]
theorem sf_4 : sfF pp k (nI 4) = (wiI pp k) := by unfold sfF; rw [if_neg (by decide), if_neg (by decide), if_neg (by decide), if_neg (by decide), if_pos (by decide)]; rfl
theorem sf_5 : sfF pp k (nI 5) = (pp (25 + 4 * k)) := by unfold sfF; rw [if_neg (by decide), if_neg (by decide), if_neg (by decide), if_neg (by decide), if_neg (by decide), if_pos (by decide)]
theorem sf_6 : sfF pp k (nI 6) = (pp (26 + 4 * k)) := by unfold sfF; rw [if_neg (by decide), if_neg (by decide), if_neg (by decide), if_neg (by decide), if_neg (by decide), if_neg (by decide)]
theorem mf_0 : misF dd (nI 0) = (dd 48) := by unfold misF mnF; rw [if_pos (by decide)]
theorem mf_1 : misF dd (nI 1) = (dd 49) := by unfold misF mnF; rw [if_neg (by decide), if_pos (by decide)]
theorem mf_2 : misF dd (nI 2) = (szF (dd 48) (dd 49)) := by unfold misF mnF; rw [if_neg (by decide), if_neg (by decide)]
theorem wiI_t (h : wiP pp k) : wiI pp k = 1 := by unfold wiI; rw [if_neg h.1, if_neg h.2]
theorem wiI_f (h : ¬ wiP pp k) : wiI pp k = 0 := (wiP_f h).symm
theorem lrI_0 (h : pp 22 = 0) : lrI pp = 0 := if_pos h
theorem lrI_1 (h : ¬ pp 22 = 0) : lrI pp = 1 := if_neg h
end KM
/-! Regions and their sources. -/
theorem src_self {le : Nat → Int32} {k : Nat} (hk : k < 24) (h : 0 < le k) : srcN le k 24 = some k := by
  have e := src_own hk h (23 - k) (by omega)
  rw [show k + 1 + (23 - k) = 24 by omega] at e; exact e
theorem src_non {le : Nat → Int32} {k : Nat} : ∀ n, srcN le k n = none → ∀ j, j < n → le j ≤ 0
  | 0, h, j, hj => absurd hj (Nat.not_lt_zero _)
  | n + 1, h, j, hj => by
    unfold srcN at h
    cases e : srcN le k n with
    | none =>
      rw [e] at h
      dsimp only at h
      split at h
      · cases h
      · rename_i c
        by_cases c2 : j = n
        · subst c2; exact Int32.not_lt.mp c
        · exact src_non n e j (by omega)
    | some z =>
      rw [e] at h
      dsimp only at h
      split at h <;> cases h
theorem src_min {le : Nat → Int32} {k : Nat} : ∀ n q, srcN le k n = some q → ∀ j, j < n → 0 < le j → ¬ (dsN k j < dsN k q) ∧ (dsN k j = dsN k q → q ≤ j)
  | 0, q, h, j, hj, _ => absurd hj (Nat.not_lt_zero _)
  | n + 1, q, h, j, hj, hl => by
    unfold srcN at h
    cases e : srcN le k n with
    | none =>
      rw [e] at h
      dsimp only at h
      split at h
      · cases h
        by_cases c : j = n
        · subst c; exact ⟨Nat.lt_irrefl _, fun _ => Nat.le_refl _⟩
        · exact absurd (src_non n e j (by omega)) (Int32.not_le.mpr hl)
      · cases h
    | some z =>
      rw [e] at h
      dsimp only at h
      have ih := src_min n z e
      have hz := srcN_lt n z e
      split at h
      · rename_i c
        cases h
        by_cases c2 : j = n
        · subst c2; exact ⟨Nat.lt_irrefl _, fun _ => Nat.le_refl _⟩
        · have := (ih j (by omega) hl).1
          exact ⟨by omega, fun _ => by omega⟩
      · rename_i c
        cases h
        by_cases c2 : j = n
        · subst c2
          exact ⟨fun z9 => c ⟨hl, z9⟩, fun _ => by omega⟩
        · exact ih j (by omega) hl
theorem src_none {le : Nat → Int32} {k : Nat} : ∀ n, (∀ j, j < n → le j ≤ 0) → srcN le k n = none
  | 0, _ => rfl
  | n + 1, h => by
    unfold srcN
    rw [src_none n (fun j hj => h j (by omega))]
    exact if_neg (Int32.not_lt.mpr (h n (by omega)))
theorem src_noneJ {le : Nat → Int32} {k n : Nat} (h : srcN le k n = none) : ∀ j, j < n → le j ≤ 0 := src_non n h
/-- the number of regions with a lesson, as a whole number -/
def cntL (f : Nat → Int32) : Nat → Nat
  | 0 => 0
  | n + 1 => if f n ≤ 0 then cntL f n else cntL f n + 1
theorem cnt_nI {f : Nat → Int32} : ∀ n, cntI f n = nI (cntL f n)
  | 0 => rfl
  | n + 1 => by
    unfold cntI cntL
    rw [cnt_nI n]
    split
    · rfl
    · exact nI_add _ 1
theorem cntL_le {f : Nat → Int32} : ∀ n, cntL f n ≤ n
  | 0 => Nat.le_refl _
  | n + 1 => by unfold cntL; have := cntL_le (f := f) n; split <;> omega
theorem cntL_0 {f : Nat → Int32} : ∀ n, cntL f n = 0 → ∀ j, j < n → f j ≤ 0
  | 0, _, j, hj => absurd hj (Nat.not_lt_zero _)
  | n + 1, h, j, hj => by
    unfold cntL at h
    split at h
    · rename_i c
      by_cases c2 : j = n
      · subst c2; exact c
      · exact cntL_0 n h j (by omega)
    · omega
theorem cntL_z {f : Nat → Int32} : ∀ n, (∀ j, j < n → f j ≤ 0) → cntL f n = 0
  | 0, _ => rfl
  | n + 1, h => by unfold cntL; rw [if_pos (h n (by omega))]; exact cntL_z n (fun j hj => h j (by omega))
theorem src_cnt {le : Nat → Int32} {k : Nat} : srcN le k 24 = none ↔ cntI le 24 = 0 := by
  have hb := cntL_le (f := le) 24
  constructor
  · intro h
    rw [cnt_nI, cntL_z 24 (src_noneJ h)]; rfl
  · intro h
    rw [cnt_nI] at h
    exact src_none 24 (cntL_0 24 (nI_eq0 h (by omega)))
theorem hld_src {le : Nat → Int32} {f : Nat → UInt64} {k q : Nat} (h : srcN le k 24 = some q) : hldF le f k = f q := by unfold hldF; rw [h]
theorem hld_two {le : Nat → Int32} {f : Nat → UInt64} {k q : Nat} (h : srcN le k 24 = some q) : hldF le f q = hldF le f k := by
  rw [hld_src h, hld_own (srcN_lt 24 q h) (srcN_pos 24 q h)]
theorem hld_no {le : Nat → Int32} {f : Nat → UInt64} {k : Nat} (h : srcN le k 24 = none) : hldF le f k = FP.dconst0 := by unfold hldF; rw [h]
theorem dc_rfl {x : UInt64} (h : qzN x) : Op.cmpValue (FP.dcmp x x) .l = 0 := by
  rcases qz_cmp h h with ⟨c, _⟩ | ⟨_, c⟩ | ⟨c, _⟩
  · omega
  · rw [c]; rfl
  · omega
theorem dc_0 : Op.cmpValue (FP.dcmp FP.dconst0 FP.dconst0) .l = 0 := dc_rfl qz_v0.1
theorem pgv {pp : Nat → Int32} {k : Nat} (hk : k < 24) : pg pp 103 24 k = pp (103 + k) := pg_at hk
theorem pos_of {x : Int32} (h : ¬ x ≤ 0) : 0 < x := Int32.not_le.mp h
theorem eq2 {P R : Prop} {v w : Int32} (h1 : (v = 1 ∧ P) ∨ (v = 0 ∧ ¬ P)) (h2 : (w = 1 ∧ R) ∨ (w = 0 ∧ ¬ R)) (h : P ↔ R) : v = w := by
  rcases h1 with ⟨rfl, a⟩ | ⟨rfl, a⟩ <;> rcases h2 with ⟨rfl, b⟩ | ⟨rfl, b⟩
  · rfl
  · exact absurd (h.mp a) b
  · exact absurd (h.mpr b) a
  · rfl
theorem optN24 {le : Nat → Int32} {k : Nat} (h : optI (srcN le k 24) = -1) : srcN le k 24 = none := (optI_m1 (fun q hq => srcN_lt 24 q hq)).mp h

/-! The text: reading, as both sides do it. -/
theorem optI_none {o : Option Nat} (h : ∀ q, o = some q → q < 2 ^ 31) (e : optI o = -1) : o = none := by
  cases o with
  | none => rfl
  | some q =>
    have hq := h q rfl
    have e2 : (nI q).toInt = -1 := by rw [show nI q = -1 from e]; rfl
    rw [nI_toInt hq] at e2
    omega
theorem optI_some {o : Option Nat} (e : ¬ optI o = -1) : ∃ q, o = some q := by
  cases o with
  | none => exact absurd rfl e
  | some q => exact ⟨q, rfl⟩
abbrev dgP (tx : Nat → Int32) (L i : Nat) : Prop := i < L ∧ 48 ≤ tx i ∧ tx i ≤ 57
def flF (o : Option Nat) (k : Nat) : Option Nat := match o with
  | none => some k
  | some e => some e
theorem flF_t {o : Option Nat} {k : Nat} (h : ¬ optI o = -1) : flF o k = o := by
  obtain ⟨q, rfl⟩ := optI_some h; rfl
theorem flF_f {o : Option Nat} {k : Nat} (he : ∀ q, o = some q → q ≤ 100) (h : optI o = -1) : flF o k = some k := by
  rw [optI_none (fun q hq => Nat.lt_of_le_of_lt (he q hq) (by decide)) h]; rfl
theorem flF_le {o : Option Nat} {k : Nat} (he : ∀ q, o = some q → q ≤ 100) (hk : k ≤ 100) : ∀ q, flF o k = some q → q ≤ 100 := by
  intro q h
  cases o with
  | none => cases h; exact hk
  | some e => cases h; exact he _ rfl
def skF (tx : Nat → Int32) (L : Nat) (c : Int32) (i : Nat) (o : Option Nat) : Nat × Option Nat := match o with
  | none => if i < L ∧ tx i = c then (i + 1, none) else (i, some i)
  | some e => (i, some e)
def rdF (tx : Nat → Int32) (L : Nat) (g : Int32) (i : Nat) (o : Option Nat) : Nat × Option Nat × Int32 := match o with
  | none => if dgP tx L i ∧ tx i - 48 ≤ g then (i + 1, none, tx i - 48) else (i, some i, 0)
  | some e => (i, some e, 0)
def scN (tx : Nat → Int32) (L i : Nat) : Nat → Nat
  | 0 => 0
  | m + 1 => if scN tx L i m = m ∧ dgP tx L (i + m) then m + 1 else scN tx L i m
def numI (tx : Nat → Int32) (i : Nat) : Nat → Int32
  | 0 => 0
  | n + 1 => 10 * numI tx i n + tx (i + n) - 48
def nmF (tx : Nat → Int32) (L m : Nat) (g : Int32) (i : Nat) (o : Option Nat) : Nat × Option Nat × Int32 := match o with
  | none => if scN tx L i m = 0 ∨ dgP tx L (i + scN tx L i m) then (i + scN tx L i m, some (i + scN tx L i m), numI tx i (scN tx L i m)) else if numI tx i (scN tx L i m) ≤ g then (i + scN tx L i m, none, numI tx i (scN tx L i m)) else (i + scN tx L i m, some i, numI tx i (scN tx L i m))
  | some e => (i, some e, 0)
theorem scN_le {tx : Nat → Int32} {L i : Nat} : ∀ m, scN tx L i m ≤ m
  | 0 => Nat.le_refl _
  | m + 1 => by
    unfold scN
    have := scN_le (tx := tx) (L := L) (i := i) m
    split <;> omega
theorem scN_all {tx : Nat → Int32} {L i n : Nat} (h : ∀ j, j < n → dgP tx L (i + j)) : ∀ m, m ≤ n → scN tx L i m = m
  | 0, _ => rfl
  | m + 1, hm => by
    unfold scN
    rw [if_pos ⟨scN_all h m (by omega), h m (by omega)⟩]
theorem scN_stop {tx : Nat → Int32} {L i n : Nat} (h : ∀ j, j < n → dgP tx L (i + j)) (hn : ¬ dgP tx L (i + n)) : ∀ m, n ≤ m → scN tx L i m = n
  | 0, hm => by
    obtain rfl : n = 0 := by omega
    rfl
  | m + 1, hm => by
    rcases Nat.lt_or_ge n (m + 1) with q | q
    · have e := scN_stop h hn m (by omega)
      unfold scN
      rw [e]
      exact if_neg (fun z => by have := z.1; subst this; exact hn z.2)
    · obtain rfl : n = m + 1 := by omega
      exact scN_all h (m + 1) (Nat.le_refl _)
theorem scN_eq {tx : Nat → Int32} {L i n m : Nat} (h : ∀ j, j < n → dgP tx L (i + j)) (hm : n ≤ m) (hn : n = m ∨ ¬ dgP tx L (i + n)) : scN tx L i m = n := by
  rcases hn with q | q
  · subst q; exact scN_all h n (Nat.le_refl _)
  · exact scN_stop h q m hm
theorem scN_in {tx : Nat → Int32} {L i : Nat} (hi : i ≤ L) : ∀ m, i + scN tx L i m ≤ L
  | 0 => hi
  | m + 1 => by
    unfold scN
    have := scN_in (tx := tx) (L := L) hi m
    split
    · rename_i z; have := z.2.1; omega
    · exact this
theorem skF_le {tx : Nat → Int32} {L i : Nat} {c : Int32} {o : Option Nat} (hi : i ≤ L) : (skF tx L c i o).1 ≤ L := by
  unfold skF
  split
  · split
    · rename_i z; exact z.1
    · exact hi
  · exact hi
theorem nmF_le {tx : Nat → Int32} {L m i : Nat} {g : Int32} {o : Option Nat} (hi : i ≤ L) : (nmF tx L m g i o).1 ≤ L := by
  unfold nmF
  split
  · have := scN_in (tx := tx) (L := L) hi m
    split
    · exact this
    · split <;> exact this
  · exact hi
theorem rdF_le {tx : Nat → Int32} {L i : Nat} {g : Int32} {o : Option Nat} (hi : i ≤ L) : (rdF tx L g i o).1 ≤ L := by
  unfold rdF
  split
  · split
    · rename_i z; exact z.1.1
    · exact hi
  · exact hi
theorem skF_er {tx : Nat → Int32} {L i : Nat} {c : Int32} {o : Option Nat} (hL : L ≤ 100) (hi : i ≤ L) (he : ∀ q, o = some q → q ≤ 100) : ∀ q, (skF tx L c i o).2 = some q → q ≤ 100 := by
  intro q h
  unfold skF at h
  split at h
  · split at h
    · cases h
    · cases h; omega
  · cases h; exact he _ rfl
theorem nmF_er {tx : Nat → Int32} {L m i : Nat} {g : Int32} {o : Option Nat} (hL : L ≤ 100) (hi : i ≤ L) (he : ∀ q, o = some q → q ≤ 100) : ∀ q, (nmF tx L m g i o).2.1 = some q → q ≤ 100 := by
  intro q h
  unfold nmF at h
  split at h
  · have := scN_in (tx := tx) (L := L) hi m
    split at h
    · cases h; omega
    · split at h
      · cases h
      · cases h; omega
  · cases h; exact he _ rfl
theorem rdF_er {tx : Nat → Int32} {L i : Nat} {g : Int32} {o : Option Nat} (hL : L ≤ 100) (hi : i ≤ L) (he : ∀ q, o = some q → q ≤ 100) : ∀ q, (rdF tx L g i o).2.1 = some q → q ≤ 100 := by
  intro q h
  unfold rdF at h
  split at h
  · split at h
    · cases h
    · cases h; omega
  · cases h; exact he _ rfl
theorem nmF_bad {tx : Nat → Int32} {L m i n : Nat} {g : Int32} (h : scN tx L i m = n) (c : n = 0 ∨ dgP tx L (i + n)) : nmF tx L m g i none = (i + n, some (i + n), numI tx i n) := by
  subst h; unfold nmF; exact if_pos c
theorem nmF_big {tx : Nat → Int32} {L m i n : Nat} {g : Int32} (h : scN tx L i m = n) (c : ¬ n = 0) (c2 : ¬ dgP tx L (i + n)) (c3 : ¬ numI tx i n ≤ g) : nmF tx L m g i none = (i + n, some i, numI tx i n) := by
  subst h; unfold nmF; dsimp only; rw [if_neg (fun z => z.elim c c2), if_neg c3]
theorem nmF_ok {tx : Nat → Int32} {L m i n : Nat} {g : Int32} (h : scN tx L i m = n) (c : ¬ n = 0) (c2 : ¬ dgP tx L (i + n)) (c3 : numI tx i n ≤ g) : nmF tx L m g i none = (i + n, none, numI tx i n) := by
  subst h; unfold nmF; dsimp only; rw [if_neg (fun z => z.elim c c2), if_pos c3]
theorem nI_eq0 {n : Nat} (h : nI n = 0) (hn : n < 2 ^ 31) : n = 0 := (nI_eq hn (by decide)).mp h
theorem nI_ne0' {n : Nat} (h : ¬ nI n = 0) : ¬ n = 0 := fun e => h (by subst e; rfl)
theorem optN {o : Option Nat} (he : ∀ q, o = some q → q ≤ 100) (e : optI o = -1) : o = none := optI_none (fun q hq => Nat.lt_of_le_of_lt (he q hq) (by decide)) e
theorem skF_e {tx : Nat → Int32} {L i : Nat} {c : Int32} {o : Option Nat} (h : ¬ optI o = -1) : skF tx L c i o = (i, flF o i) := by obtain ⟨q, rfl⟩ := optI_some h; rfl
theorem skF_n {tx : Nat → Int32} {L i : Nat} {c : Int32} {o : Option Nat} (h : o = none) (c2 : ¬ (i < L ∧ tx i = c)) : skF tx L c i o = (i, flF o i) := by subst h; exact if_neg c2
theorem skF_y {tx : Nat → Int32} {L i : Nat} {c : Int32} {o : Option Nat} (h : o = none) (h1 : i < L) (c2 : tx i = c) : skF tx L c i o = (i + 1, none) := by subst h; exact if_pos ⟨h1, c2⟩
theorem rdF_e {tx : Nat → Int32} {L i : Nat} {c : Int32} {o : Option Nat} (h : ¬ optI o = -1) : rdF tx L c i o = (i, flF o i, 0) := by obtain ⟨q, rfl⟩ := optI_some h; rfl
theorem rdF_n {tx : Nat → Int32} {L i : Nat} {c : Int32} {o : Option Nat} (h : o = none) (c2 : ¬ (dgP tx L i ∧ tx i - 48 ≤ c)) : rdF tx L c i o = (i, flF o i, 0) := by subst h; exact if_neg c2
theorem rdF_y {tx : Nat → Int32} {L i : Nat} {c : Int32} {o : Option Nat} (h : o = none) (h1 : dgP tx L i) (c2 : tx i - 48 ≤ c) : rdF tx L c i o = (i + 1, none, tx i - 48) := by subst h; exact if_pos ⟨h1, c2⟩
theorem nmF_e {tx : Nat → Int32} {L i m n : Nat} {c : Int32} {o : Option Nat} (h : ¬ optI o = -1) (hz : n ≠ 0 → o = none) (_ : True) : nmF tx L m c i o = (i + n, flF o (i + n), numI tx i n) := by
  obtain ⟨q, rfl⟩ := optI_some h
  have : n = 0 := Classical.byContradiction fun e => by cases hz e
  subst this
  rfl
def bdF (tx : Nat → Int32) (L i : Nat) (o : Option Nat) : Nat × Option Nat × Int32 × Int32 × Int32 :=
  let a := rdF tx L 1 i o
  let b := rdF tx L 3 a.1 a.2.1
  let c := skF tx L (if b.1 < L ∧ tx b.1 = 45 then 45 else 43) b.1 b.2.1
  let d := nmF tx L 3 120 c.1 c.2
  (d.1, d.2.1, a.2.2, b.2.2, if b.1 < L ∧ tx b.1 = 45 then -d.2.2 else d.2.2)
theorem bdF_le {tx : Nat → Int32} {L i : Nat} {o : Option Nat} (hi : i ≤ L) : (bdF tx L i o).1 ≤ L := nmF_le (skF_le (rdF_le (rdF_le hi)))
theorem bdF_er {tx : Nat → Int32} {L i : Nat} {o : Option Nat} (hL : L ≤ 100) (hi : i ≤ L) (he : ∀ q, o = some q → q ≤ 100) : ∀ q, (bdF tx L i o).2.1 = some q → q ≤ 100 := nmF_er hL (skF_le (rdF_le (rdF_le hi))) (skF_er hL (rdF_le (rdF_le hi)) (rdF_er hL (rdF_le hi) (rdF_er hL hi he)))
/-- one order, read from i on: where reading stands then, the fault, the three numbers -/
def roF (tx : Nat → Int32) (L i : Nat) : Nat × Option Nat × Int32 × Int32 × Int32 :=
  if tx i = 97 then
    let a := nmF tx L 2 99 (i + 1) none
    let d := skF tx L 59 a.1 a.2.1
    (d.1, d.2, a.2.2, 0, 0)
  else if tx i = 98 then
    let a := bdF tx L (i + 1) none
    let d := skF tx L 59 a.1 a.2.1
    (d.1, d.2, a.2.2)
  else if tx i = 108 then
    let d := skF tx L 59 (i + 1) none
    (d.1, d.2, 0, 0, 0)
  else if tx i = 115 then
    let a := nmF tx L 5 21599 (i + 1) none
    let b := skF tx L 44 a.1 a.2.1
    let c := nmF tx L 4 5400 b.1 b.2
    let d := skF tx L 59 c.1 c.2.1
    (d.1, d.2, a.2.2, c.2.2, 0)
  else (i, some i, 0, 0, 0)
theorem roF_le {tx : Nat → Int32} {L i : Nat} (hi : i < L) : (roF tx L i).1 ≤ L := by
  unfold roF
  split
  · exact skF_le (nmF_le hi)
  · split
    · exact skF_le (bdF_le hi)
    · split
      · exact skF_le hi
      · split
        · exact skF_le (nmF_le (skF_le (nmF_le hi)))
        · exact Nat.le_of_lt hi
theorem roF_er {tx : Nat → Int32} {L i : Nat} (hL : L ≤ 100) (hi : i < L) : ∀ q, (roF tx L i).2.1 = some q → q ≤ 100 := by
  have h0 : ∀ q, (none : Option Nat) = some q → q ≤ 100 := fun q h => by cases h
  unfold roF
  split
  · exact skF_er hL (nmF_le hi) (nmF_er hL hi h0)
  · split
    · exact skF_er hL (bdF_le hi) (bdF_er hL hi h0)
    · split
      · exact skF_er hL hi h0
      · split
        · exact skF_er hL (nmF_le (skF_le (nmF_le hi))) (nmF_er hL (skF_le (nmF_le hi)) (skF_er hL (nmF_le hi) (nmF_er hL hi h0)))
        · intro q h; cases h; omega
/-- what a read order leaves in the reader's fields -/
def roK (tx : Nat → Int32) (L i : Nat) (f1 f2 f3 : Int32) : Prop :=
  (tx i = 97 → f1 = (roF tx L i).2.2.1) ∧ (tx i = 98 → f1 = (roF tx L i).2.2.1 ∧ f2 = (roF tx L i).2.2.2.1 ∧ f3 = (roF tx L i).2.2.2.2) ∧ (tx i = 115 → f1 = (roF tx L i).2.2.1 ∧ f2 = (roF tx L i).2.2.2.1) ∧ (tx i = 97 ∨ tx i = 98 ∨ tx i = 108 ∨ tx i = 115)
theorem roF_a {tx : Nat → Int32} {L i : Nat} (h : tx i = 97) : roF tx L i = ((skF tx L 59 (nmF tx L 2 99 (i + 1) none).1 (nmF tx L 2 99 (i + 1) none).2.1).1, (skF tx L 59 (nmF tx L 2 99 (i + 1) none).1 (nmF tx L 2 99 (i + 1) none).2.1).2, (nmF tx L 2 99 (i + 1) none).2.2, 0, 0) := by unfold roF; exact if_pos h
theorem roF_b {tx : Nat → Int32} {L i : Nat} (h : tx i = 98) : roF tx L i = ((skF tx L 59 (bdF tx L (i + 1) none).1 (bdF tx L (i + 1) none).2.1).1, (skF tx L 59 (bdF tx L (i + 1) none).1 (bdF tx L (i + 1) none).2.1).2, (bdF tx L (i + 1) none).2.2) := by
  unfold roF; rw [if_neg (by rw [h]; decide)]; exact if_pos h
theorem roF_l {tx : Nat → Int32} {L i : Nat} (h : tx i = 108) : roF tx L i = ((skF tx L 59 (i + 1) none).1, (skF tx L 59 (i + 1) none).2, 0, 0, 0) := by
  unfold roF; rw [if_neg (by rw [h]; decide), if_neg (by rw [h]; decide)]; exact if_pos h
theorem roF_s {tx : Nat → Int32} {L i : Nat} (h : tx i = 115) : roF tx L i = ((skF tx L 59 (nmF tx L 4 5400 (skF tx L 44 (nmF tx L 5 21599 (i + 1) none).1 (nmF tx L 5 21599 (i + 1) none).2.1).1 (skF tx L 44 (nmF tx L 5 21599 (i + 1) none).1 (nmF tx L 5 21599 (i + 1) none).2.1).2).1 (nmF tx L 4 5400 (skF tx L 44 (nmF tx L 5 21599 (i + 1) none).1 (nmF tx L 5 21599 (i + 1) none).2.1).1 (skF tx L 44 (nmF tx L 5 21599 (i + 1) none).1 (nmF tx L 5 21599 (i + 1) none).2.1).2).2.1).1, (skF tx L 59 (nmF tx L 4 5400 (skF tx L 44 (nmF tx L 5 21599 (i + 1) none).1 (nmF tx L 5 21599 (i + 1) none).2.1).1 (skF tx L 44 (nmF tx L 5 21599 (i + 1) none).1 (nmF tx L 5 21599 (i + 1) none).2.1).2).1 (nmF tx L 4 5400 (skF tx L 44 (nmF tx L 5 21599 (i + 1) none).1 (nmF tx L 5 21599 (i + 1) none).2.1).1 (skF tx L 44 (nmF tx L 5 21599 (i + 1) none).1 (nmF tx L 5 21599 (i + 1) none).2.1).2).2.1).2, (nmF tx L 5 21599 (i + 1) none).2.2, (nmF tx L 4 5400 (skF tx L 44 (nmF tx L 5 21599 (i + 1) none).1 (nmF tx L 5 21599 (i + 1) none).2.1).1 (skF tx L 44 (nmF tx L 5 21599 (i + 1) none).1 (nmF tx L 5 21599 (i + 1) none).2.1).2).2.2, 0) := by
  unfold roF; rw [if_neg (by rw [h]; decide), if_neg (by rw [h]; decide), if_neg (by rw [h]; decide)]; exact if_pos h
theorem roF_n {tx : Nat → Int32} {L i : Nat} (h1 : ¬ tx i = 97) (h2 : ¬ tx i = 98) (h3 : ¬ tx i = 108) (h4 : ¬ tx i = 115) : roF tx L i = (i, some i, 0, 0, 0) := by
  unfold roF; rw [if_neg h1, if_neg h2, if_neg h3]; exact if_neg h4
theorem roK_a {tx : Nat → Int32} {L i : Nat} {f1 f2 f3 : Int32} (h : tx i = 97) (e : f1 = (roF tx L i).2.2.1) : roK tx L i f1 f2 f3 := ⟨fun _ => e, fun z => absurd (h.symm.trans z) (by decide), fun z => absurd (h.symm.trans z) (by decide), Or.inl h⟩
theorem roK_b {tx : Nat → Int32} {L i : Nat} {f1 f2 f3 : Int32} (h : tx i = 98) (e : f1 = (roF tx L i).2.2.1 ∧ f2 = (roF tx L i).2.2.2.1 ∧ f3 = (roF tx L i).2.2.2.2) : roK tx L i f1 f2 f3 := ⟨fun z => absurd (h.symm.trans z) (by decide), fun _ => e, fun z => absurd (h.symm.trans z) (by decide), Or.inr (Or.inl h)⟩
theorem roK_l {tx : Nat → Int32} {L i : Nat} {f1 f2 f3 : Int32} (h : tx i = 108) : roK tx L i f1 f2 f3 := ⟨fun z => absurd (h.symm.trans z) (by decide), fun z => absurd (h.symm.trans z) (by decide), fun z => absurd (h.symm.trans z) (by decide), Or.inr (Or.inr (Or.inl h))⟩
theorem roK_s {tx : Nat → Int32} {L i : Nat} {f1 f2 f3 : Int32} (h : tx i = 115) (e : f1 = (roF tx L i).2.2.1 ∧ f2 = (roF tx L i).2.2.2.1) : roK tx L i f1 f2 f3 := ⟨fun z => absurd (h.symm.trans z) (by decide), fun z => absurd (h.symm.trans z) (by decide), fun _ => e, Or.inr (Or.inr (Or.inr h))⟩
/-- the fault of a whole text, read from i on, within n orders -/
def prsN (tx : Nat → Int32) (L : Nat) : Nat → Nat → Option Nat
  | 0, _ => none
  | n + 1, i => if i < L then (match (roF tx L i).2.1 with
    | some q => some q
    | none => prsN tx L n (roF tx L i).1) else none
theorem prs_end {tx : Nat → Int32} {L k i : Nat} {o : Option Nat} (h : prsN tx L (100 - k) i = o) (hk : 100 ≤ k) : o = none := by
  rw [show 100 - k = 0 by omega] at h; exact h.symm
theorem prs_stop {tx : Nat → Int32} {L k i : Nat} {o : Option Nat} (h : prsN tx L (100 - k) i = o) (hi : L ≤ i) : o = none := by
  cases hn : 100 - k with
  | zero => rw [hn] at h; exact h.symm
  | succ n => rw [hn] at h; unfold prsN at h; rw [if_neg (Nat.not_lt.mpr hi)] at h; exact h.symm
theorem prs_err {tx : Nat → Int32} {L k i q : Nat} {o : Option Nat} (h : prsN tx L (100 - k) i = o) (hk : k < 100) (hi : i < L) (hq : (roF tx L i).2.1 = some q) : o = some q := by
  obtain ⟨n, hn⟩ : ∃ n, 100 - k = n + 1 := ⟨99 - k, by omega⟩
  rw [hn] at h; unfold prsN at h; rw [if_pos hi, hq] at h; exact h.symm
theorem prs_next {tx : Nat → Int32} {L k i : Nat} {o : Option Nat} (h : prsN tx L (100 - k) i = o) (hk : k < 100) (hi : i < L) (hq : (roF tx L i).2.1 = none) : prsN tx L (100 - (k + 1)) (roF tx L i).1 = o := by
  obtain ⟨n, hn⟩ : ∃ n, 100 - k = n + 1 := ⟨99 - k, by omega⟩
  rw [hn] at h; unfold prsN at h; rw [if_pos hi, hq] at h
  rw [show 100 - (k + 1) = n by omega]; exact h

/-! A whole text of orders, carried out. -/
theorem nmF_ge {tx : Nat → Int32} {L m i : Nat} {g : Int32} {o : Option Nat} : i ≤ (nmF tx L m g i o).1 := by
  unfold nmF
  cases o with
  | none =>
    dsimp only
    split
    · exact Nat.le_add_right _ _
    · split
      · exact Nat.le_add_right _ _
      · exact Nat.le_add_right _ _
  | some e => exact Nat.le_refl _
theorem skF_ge {tx : Nat → Int32} {L i : Nat} {c : Int32} {o : Option Nat} : i ≤ (skF tx L c i o).1 := by
  unfold skF
  cases o with
  | none => dsimp only; split <;> simp
  | some e => exact Nat.le_refl _
theorem rdF_ge {tx : Nat → Int32} {L i : Nat} {g : Int32} {o : Option Nat} : i ≤ (rdF tx L g i o).1 := by
  unfold rdF
  cases o with
  | none => dsimp only; split <;> simp
  | some e => exact Nat.le_refl _
theorem bdF_ge {tx : Nat → Int32} {L i : Nat} {o : Option Nat} : i ≤ (bdF tx L i o).1 := Nat.le_trans rdF_ge (Nat.le_trans rdF_ge (Nat.le_trans skF_ge nmF_ge))
theorem roF_gt {tx : Nat → Int32} {L i : Nat} (h : (roF tx L i).2.1 = none) : i < (roF tx L i).1 := by
  by_cases h1 : tx i = 97
  · rw [roF_a h1]; exact Nat.le_trans nmF_ge skF_ge
  · by_cases h2 : tx i = 98
    · rw [roF_b h2]; exact Nat.le_trans bdF_ge skF_ge
    · by_cases h3 : tx i = 108
      · rw [roF_l h3]; exact skF_ge
      · by_cases h4 : tx i = 115
        · rw [roF_s h4]; exact Nat.le_trans nmF_ge (Nat.le_trans skF_ge (Nat.le_trans nmF_ge skF_ge))
        · rw [roF_n h1 h2 h3 h4] at h; cases h
/-- the orders from i on, up to the first that is not to be done: the state, and how many -/
def exF (tx : Nat → Int32) (L : Nat) : Nat → Nat → (Nat → Int32) → (Nat → UInt64) → Int32 → (Nat → Int32) × (Nat → UInt64) × Int32
  | 0, _, pp, dd, v => (pp, dd, v)
  | n + 1, i, pp, dd, v => if i < L then (match doO pp dd (tx i) (roF tx L i).2.2.1 (roF tx L i).2.2.2.1 (roF tx L i).2.2.2.2 with
    | none => (pp, dd, v)
    | some (x, y) => exF tx L n (roF tx L i).1 x y (v + 1)) else (pp, dd, v)
section EXF
variable {tx : Nat → Int32} {L i k : Nat} {pp : Nat → Int32} {dd : Nat → UInt64} {v : Int32}
theorem ex_stop (hi : L ≤ i) : exF tx L k i pp dd v = (pp, dd, v) := by
  cases k with
  | zero => rfl
  | succ n => unfold exF; rw [if_neg (Nat.not_lt.mpr hi)]
theorem ex_no (hk : k < 100) (hi : i < L) (h : doO pp dd (tx i) (roF tx L i).2.2.1 (roF tx L i).2.2.2.1 (roF tx L i).2.2.2.2 = none) : exF tx L (100 - k) i pp dd v = (pp, dd, v) := by
  rw [show 100 - k = (100 - (k + 1)) + 1 by omega]; unfold exF; rw [if_pos hi, h]
theorem ex_do {x : Nat → Int32} {y : Nat → UInt64} (hk : k < 100) (hi : i < L) (h : doO pp dd (tx i) (roF tx L i).2.2.1 (roF tx L i).2.2.2.1 (roF tx L i).2.2.2.2 = some (x, y)) : exF tx L (100 - (k + 1)) (roF tx L i).1 x y (v + 1) = exF tx L (100 - k) i pp dd v := by
  rw [show 100 - k = (100 - (k + 1)) + 1 by omega]
  show _ = if i < L then _ else _
  rw [if_pos hi, h]
end EXF
/-- an order whose numbers are as they are read -/
def okO (kd f1 f2 f3 : Int32) : Prop :=
  (kd = 97 → ∃ k, k < 100 ∧ f1 = nI k) ∧ (kd = 98 → ∃ x y, x < 2 ∧ y < 4 ∧ f1 = nI x ∧ f2 = nI y) ∧ (kd = 98 → -120 ≤ f3 ∧ f3 ≤ 120) ∧ (kd = 115 → inS f1 f2) ∧ (kd = 97 ∨ kd = 98 ∨ kd = 108 ∨ kd = 115)
/-- what doing an order asks of a state -/
def stOK (pp : Nat → Int32) (dd : Nat → UInt64) (cn : Nat) : Prop :=
  pp 20 = nI cn ∧ cn ≤ 20 ∧ (∀ k, k < cn → inS (azS pp k) (alS pp k)) ∧ (∀ k, k < cn → plOK pp dd k) ∧ 1 ≤ pp 0 ∧ (∀ k, k < cn → szOK (plMA pp dd k) (plMH pp dd k)) ∧ (¬ pp 22 = 0 → ∃ k, k < cn ∧ pp 21 = nI k) ∧ (¬ pp 22 = 0 → leOK pp dd (rgS pp (pp 21).toInt.toNat))
theorem num_nat {tx : Nat → Int32} {L i : Nat} : ∀ n, n ≤ 5 → (∀ j, j < n → dgP tx L (i + j)) → ∃ v, v < 10 ^ n ∧ numI tx i n = nI v
  | 0, _, _ => ⟨0, by decide, rfl⟩
  | n + 1, hn, h => by
    obtain ⟨v, hv, e⟩ := num_nat n (by omega) (fun j hj => h j (by omega))
    have hd := h n (Nat.lt_succ_self _)
    obtain ⟨k, hk, ek⟩ := dgv hd.2.1 hd.2.2
    have hp : 10 ^ n ≤ 10 ^ 4 := Nat.pow_le_pow_right (by decide) (by omega)
    refine ⟨10 * v + k, by rw [Nat.pow_succ]; omega, ?_⟩
    show 10 * numI tx i n + tx (i + n) - 48 = nI (10 * v + k)
    rw [e, ek]
    exact (ix_sub (ix_add (ix_mul (a := 10) rfl rfl) rfl) (b := 48) rfl (by omega)).trans (by congr 1; omega)
theorem sc_dg {tx : Nat → Int32} {L i : Nat} : ∀ m j, j < scN tx L i m → dgP tx L (i + j)
  | 0, j, h => absurd h (Nat.not_lt_zero _)
  | m + 1, j, h => by
    unfold scN at h
    split at h
    · rename_i c
      rcases Nat.lt_or_ge j m with q | q
      · exact sc_dg m j (by rw [c.1]; exact q)
      · rw [show j = m by omega]; exact c.2
    · exact sc_dg m j h
theorem nm_nat {tx : Nat → Int32} {L m i : Nat} {g : Int32} (hm : m ≤ 5) (h : (nmF tx L m g i none).2.1 = none) : ∃ v, v < 100000 ∧ (nmF tx L m g i none).2.2 = nI v ∧ nI v ≤ g := by
  obtain ⟨v, hv, e⟩ := num_nat (tx := tx) (L := L) (i := i) (scN tx L i m) (Nat.le_trans (scN_le m) hm) (sc_dg m)
  have hp : 10 ^ (scN tx L i m) ≤ 10 ^ 5 := Nat.pow_le_pow_right (by decide) (Nat.le_trans (scN_le m) hm)
  unfold nmF at h ⊢
  dsimp only at h ⊢
  split at h
  · cases h
  · rename_i c1
    split at h
    · rename_i c2
      rw [if_neg c1, if_pos c2]
      exact ⟨v, by omega, e, by rw [← e]; exact c2⟩
    · cases h
theorem rd_ok {tx : Nat → Int32} {L i j : Nat} {g : Int32} (hg : nI j = g) (hj : j < 10) (h : dgP tx L i ∧ tx i - 48 ≤ g) : ∃ k, k ≤ j ∧ tx i - 48 = nI k := by
  obtain ⟨k, hk, e⟩ := dgv h.1.2.1 h.1.2.2
  have e2 : tx i - 48 = nI k := by rw [e]; exact (ix_sub (a := 48 + k) (b := 48) rfl rfl (by omega)).trans (by congr 1; omega)
  refine ⟨k, ?_, e2⟩
  have h2 := h.2
  rw [e2, ← hg] at h2
  exact nI_le_of h2 (by omega) (by omega)
theorem sk_none {tx : Nat → Int32} {L i : Nat} {c : Int32} {o : Option Nat} (h : (skF tx L c i o).2 = none) : o = none := by
  cases o with
  | none => rfl
  | some e => exact h
theorem nm_none {tx : Nat → Int32} {L m i : Nat} {g : Int32} {o : Option Nat} (h : (nmF tx L m g i o).2.1 = none) : o = none := by
  cases o with
  | none => rfl
  | some e => exact h
theorem rd_none {tx : Nat → Int32} {L i : Nat} {g : Int32} {o : Option Nat} (h : (rdF tx L g i o).2.1 = none) : o = none := by
  cases o with
  | none => rfl
  | some e => exact h
theorem neg_ok : ∀ v, v < 121 → -120 ≤ -(nI v) ∧ -(nI v) ≤ 120 ∧ -120 ≤ nI v ∧ nI v ≤ 120 := by decide +kernel
theorem bd_ok {tx : Nat → Int32} {L i : Nat} (h : (bdF tx L i none).2.1 = none) : (∃ x y, x < 2 ∧ y < 4 ∧ (bdF tx L i none).2.2.1 = nI x ∧ (bdF tx L i none).2.2.2.1 = nI y) ∧ -120 ≤ (bdF tx L i none).2.2.2.2 ∧ (bdF tx L i none).2.2.2.2 ≤ 120 := by
  by_cases d1 : dgP tx L i ∧ tx i - 48 ≤ 1
  · by_cases d2 : dgP tx L (i + 1) ∧ tx (i + 1) - 48 ≤ 3
    · obtain ⟨x, hx, ex⟩ := rd_ok (j := 1) rfl (by decide) d1
      obtain ⟨y, hy, ey⟩ := rd_ok (j := 3) rfl (by decide) d2
      by_cases m : hrT tx L (i + 1 + 1) = 45
      · rw [bd_m d1 d2 m] at h ⊢
        obtain ⟨v, _, e, c⟩ := nm_nat (by decide) h
        have hv := nI_le_of (b := 120) c (by omega) (by decide)
        have hh := neg_ok v (by omega)
        dsimp only
        rw [e]
        exact ⟨⟨x, y, by omega, by omega, ex, ey⟩, hh.1, hh.2.1⟩
      · by_cases q : hrT tx L (i + 1 + 1) = 43
        · rw [bd_p d1 d2 m q] at h ⊢
          obtain ⟨v, _, e, c⟩ := nm_nat (by decide) h
          have hv := nI_le_of (b := 120) c (by omega) (by decide)
          have hh := neg_ok v (by omega)
          dsimp only
          rw [e]
          exact ⟨⟨x, y, by omega, by omega, ex, ey⟩, hh.2.2.1, hh.2.2.2⟩
        · rw [bd_3 d1 d2 m q] at h; cases h
    · rw [bd_2 d1 d2] at h; cases h
  · rw [bd_1 d1] at h; cases h
theorem pla_ok {tx : Nat → Int32} {L i : Nat} (h : (plaF tx L i).2.1 = none) : inS (plaF tx L i).2.2.1 (plaF tx L i).2.2.2 := by
  unfold plaF at h ⊢
  dsimp only at h ⊢
  have h1 := nm_none h
  have h2 := sk_none h1
  rw [h1] at h ⊢
  obtain ⟨v, _, e, c⟩ := nm_nat (by decide) h2
  obtain ⟨w, _, e2, c2⟩ := nm_nat (by decide) h
  have hv := nI_le_of (b := 21599) c (by omega) (by decide)
  have hw := nI_le_of (b := 5400) c2 (by omega) (by decide)
  rw [e, e2]
  unfold inS
  rw [nI_toInt (by omega), nI_toInt (by omega)]
  omega
theorem roF_ok {tx : Nat → Int32} {L i : Nat} (h : (roF tx L i).2.1 = none) : okO (tx i) (roF tx L i).2.2.1 (roF tx L i).2.2.2.1 (roF tx L i).2.2.2.2 := by
  by_cases h1 : tx i = 97
  · rw [roF_a h1] at h ⊢
    obtain ⟨v, _, e, c⟩ := nm_nat (by decide) (sk_none h)
    have hv := nI_le_of (b := 99) c (by omega) (by decide)
    exact ⟨fun _ => ⟨v, by omega, e⟩, fun z => absurd (h1.symm.trans z) (by decide), fun z => absurd (h1.symm.trans z) (by decide), fun z => absurd (h1.symm.trans z) (by decide), Or.inl h1⟩
  · by_cases h2 : tx i = 98
    · rw [roF_b h2] at h ⊢
      have hb := bd_ok (sk_none h)
      exact ⟨fun z => absurd z h1, fun _ => hb.1, fun _ => hb.2, fun z => absurd (h2.symm.trans z) (by decide), Or.inr (Or.inl h2)⟩
    · by_cases h3 : tx i = 108
      · exact ⟨fun z => absurd z h1, fun z => absurd z h2, fun z => absurd z h2, fun z => absurd (h3.symm.trans z) (by decide), Or.inr (Or.inr (Or.inl h3))⟩
      · by_cases h4 : tx i = 115
        · rw [ro_s h4] at h ⊢
          exact ⟨fun z => absurd z h1, fun z => absurd z h2, fun z => absurd z h2, fun _ => pla_ok (sk_none h), Or.inr (Or.inr (Or.inr h4))⟩
        · rw [roF_n h1 h2 h3 h4] at h; cases h
theorem okO_b {kd f1 f2 f3 : Int32} (h : okO kd f1 f2 f3) (h1 : ¬ kd = 97) (h2 : ¬ kd = 108) (h3 : ¬ kd = 115) : kd = 98 := by
  rcases h.2.2.2.2 with z | z | z | z
  · exact absurd z h1
  · exact z
  · exact absurd z h2
  · exact absurd z h3

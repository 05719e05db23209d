/-! The stars of a tour. -/
def bitI (x : Int32) (n : Nat) : Int32 := (x >>> (nI n &&& 31)) &&& 1
def bitsL (x : Int32) : Nat → List Nat
  | 0 => []
  | n + 1 => if bitI x n = 1 then bitsL x n ++ [n] else bitsL x n
def meL (l : List Nat) (k : Nat) : Nat := l.getD k 0
def okT (x : Int32) (cn : Nat) : Prop := (∀ b, b ∈ bitsL x 32 → b < cn) ∧ (bitsL x 32).length ≤ 5
section TOUR
variable {x : Int32} {cn i n : Nat} {mv : Nat → Int32}
theorem bits_y (c : bitI x i = 1) : bitsL x (i + 1) = bitsL x i ++ [i] := if_pos c
theorem bits_n (c : ¬ bitI x i = 1) : bitsL x (i + 1) = bitsL x i := if_neg c
theorem bits_mono {b : Nat} (h : b ∈ bitsL x i) : ∀ j, b ∈ bitsL x (i + j)
  | 0 => h
  | j + 1 => by
    show b ∈ (if bitI x (i + j) = 1 then bitsL x (i + j) ++ [i + j] else bitsL x (i + j))
    split
    · exact List.mem_append_left _ (bits_mono h j)
    · exact bits_mono h j
theorem bits_len : ∀ j, (bitsL x i).length ≤ (bitsL x (i + j)).length
  | 0 => Nat.le_refl _
  | j + 1 => by
    show _ ≤ (if bitI x (i + j) = 1 then bitsL x (i + j) ++ [i + j] else bitsL x (i + j)).length
    split
    · rw [List.length_append]; exact Nat.le_trans (bits_len j) (Nat.le_add_right _ _)
    · exact bits_len j
theorem tr_1 (hi : i < 32) (c : bitI x i = 1) (h : cn ≤ i) : ¬ okT x cn := fun z => by
  have h1 : i ∈ bitsL x (i + 1) := by rw [bits_y c]; exact List.mem_append_right _ (List.mem_singleton.mpr rfl)
  have h2 := bits_mono h1 (31 - i)
  rw [show i + 1 + (31 - i) = 32 by omega] at h2
  have := z.1 i h2
  omega
theorem tr_2 (hi : i < 32) (c : bitI x i = 1) (h : 5 = (bitsL x i).length) : ¬ okT x cn := fun z => by
  have h1 : (bitsL x (i + 1)).length = 6 := by rw [bits_y c, List.length_append, ← h]; rfl
  have h2 := bits_len (x := x) (i := i + 1) (31 - i)
  rw [show i + 1 + (31 - i) = 32 by omega] at h2
  have := z.2
  omega
theorem len_y (c : bitI x i = 1) (hn : n = (bitsL x i).length) : n + 1 = (bitsL x (i + 1)).length := by rw [bits_y c, List.length_append, hn]; rfl
theorem all_y (c : bitI x i = 1) (h : ∀ b, b ∈ bitsL x i → b < cn) (hi : i < cn) : ∀ b, b ∈ bitsL x (i + 1) → b < cn := fun b hb => by
  rw [bits_y c] at hb
  rcases List.mem_append.mp hb with z | z
  · exact h b z
  · rw [List.mem_singleton.mp z]; exact hi
theorem mv_y (c : bitI x i = 1) (hn : n = (bitsL x i).length) (h : ∀ k, k < n → mv k = nI (meL (bitsL x i) k)) : ∀ k, k < n + 1 → upd mv n (nI i) k = nI (meL (bitsL x (i + 1)) k) := fun k hk => by
  rw [bits_y c]
  unfold upd meL
  by_cases e : k = n
  · subst e
    rw [if_pos rfl, List.getD_eq_getElem?_getD, List.getElem?_append_right (by omega), show k - (bitsL x i).length = 0 by omega]; rfl
  · rw [if_neg e, h k (by omega), List.getD_eq_getElem?_getD, List.getElem?_append_left (by omega)]; unfold meL; rw [List.getD_eq_getElem?_getD]
theorem meL_lt (h : ∀ b, b ∈ bitsL x i → b < cn) {k : Nat} (hk : k < (bitsL x i).length) : meL (bitsL x i) k < cn := by
  unfold meL
  rw [List.getD_eq_getElem?_getD, List.getElem?_eq_getElem hk]
  exact h _ (List.getElem_mem hk)
end TOUR
theorem bc_ex {m : Nat} {f : Nat → Int32} : ∀ n, (∃ z, z < n ∧ isP m z) → ∃ b, bcN m f n = some b ∧ isP m b ∧ b < n
  | 0, ⟨z, h, _⟩ => absurd h (Nat.not_lt_zero _)
  | n + 1, ⟨z, h, hp⟩ => by
    by_cases c : isP m n
    · cases e : bcN m f n with
      | none => exact ⟨n, bc_1 c e, c, Nat.lt_succ_self _⟩
      | some b =>
        by_cases hl : f n < f b
        · exact ⟨n, bc_2 c e hl, c, Nat.lt_succ_self _⟩
        · have hb : ∃ b2, bcN m f n = some b2 ∧ isP m b2 ∧ b2 < n := bc_in n b e
          obtain ⟨b2, e2, h2, h3⟩ := hb
          rw [e] at e2; cases e2
          exact ⟨b, bc_3 c e hl, h2, Nat.lt_succ_of_lt h3⟩
    · have hz : z < n := by
        rcases Nat.lt_or_ge z n with q | q
        · exact q
        · exact absurd (by rw [show n = z by omega]; exact hp) c
      obtain ⟨b, e, h2, h3⟩ := bc_ex n ⟨z, hz, hp⟩
      exact ⟨b, (bc_out c).trans e, h2, Nat.lt_succ_of_lt h3⟩
where bc_in : ∀ n b, bcN m f n = some b → ∃ b2, bcN m f n = some b2 ∧ isP m b2 ∧ b2 < n
  | 0, b, h => by cases h
  | n + 1, b, h => by
    by_cases c : isP m n
    · cases e : bcN m f n with
      | none => exact ⟨n, bc_1 c e, c, Nat.lt_succ_self _⟩
      | some b3 =>
        by_cases hl : f n < f b3
        · exact ⟨n, bc_2 c e hl, c, Nat.lt_succ_self _⟩
        · obtain ⟨b2, e2, h2, h3⟩ := bc_in n b3 e
          rw [e] at e2; cases e2
          exact ⟨b3, bc_3 c e hl, h2, Nat.lt_succ_of_lt h3⟩
    · rw [bc_out c] at h
      obtain ⟨b2, e2, h2, h3⟩ := bc_in n b h
      exact ⟨b2, (bc_out c).trans e2, h2, Nat.lt_succ_of_lt h3⟩
theorem idP : ∀ m, 1 ≤ m → m ≤ 5 → ∃ z, z < pwN m m ∧ isP m z := by
  intro m h1 h5
  rcases (show m = 1 ∨ m = 2 ∨ m = 3 ∨ m = 4 ∨ m = 5 by omega) with e | e | e | e | e <;> subst e
  · exact ⟨0, by decide, by decide⟩
  · exact ⟨1, by decide, by decide⟩
  · exact ⟨5, by decide, by decide⟩
  · exact ⟨27, by decide, by decide⟩
  · exact ⟨194, by decide, by decide⟩

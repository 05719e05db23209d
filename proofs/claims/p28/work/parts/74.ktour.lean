/-! Tours: the order's stars, their bits, their times one after the other. -/
theorem bc_inN {m : Nat} {f : Nat → Int32} : ∀ n b, bcN m f n = some b → isP m b ∧ b < n := fun n b h => by
  obtain ⟨b2, e2, h2, h3⟩ := bc_ex.bc_in n b h
  rw [h] at e2; cases e2; exact ⟨h2, h3⟩
def pmK (m : Nat) : Bool := (List.range (pwN m m)).all fun b => !(decide (isP m b)) || (List.range m).all fun i => (List.range m).any fun k => decide (dgN m b k = i)
theorem pm_all : pmK 1 = true ∧ pmK 2 = true ∧ pmK 3 = true ∧ pmK 4 = true ∧ pmK 5 = true := by decide +kernel
theorem pm_cov {m b i : Nat} (h1 : 1 ≤ m) (h5 : m ≤ 5) (hp : isP m b) (hb : b < pwN m m) (hi : i < m) : ∃ k, k < m ∧ dgN m b k = i := by
  have h : pmK m = true := by
    obtain ⟨a1, a2, a3, a4, a5⟩ := pm_all
    rcases (show m = 1 ∨ m = 2 ∨ m = 3 ∨ m = 4 ∨ m = 5 by omega) with e | e | e | e | e
    · subst e; exact a1
    · subst e; exact a2
    · subst e; exact a3
    · subst e; exact a4
    · subst e; exact a5
  have h2 := List.all_eq_true.mp h b (List.mem_range.mpr hb)
  rw [decide_eq_true hp, Bool.not_true, Bool.false_or] at h2
  have h3 := List.all_eq_true.mp h2 i (List.mem_range.mpr hi)
  obtain ⟨k, k1, k2⟩ := List.any_eq_true.mp h3
  exact ⟨k, List.mem_range.mp k1, of_decide_eq_true k2⟩
theorem tb_or (x y : Int32) : tbN (x ||| y) = tbN x ||| tbN y := by unfold tbN; rw [Int32.toBitVec_or, BitVec.toNat_or]
theorem tb_one : ∀ s, s < 32 → tbN (1 <<< (nI s &&& 31)) = 2 ^ s := by decide +kernel
def orF (f : Nat → Nat) : Nat → Int32
  | 0 => 0
  | n + 1 => orF f n ||| (1 <<< (nI (f n) &&& 31))
theorem or_bit {f : Nat → Nat} {j : Nat} : ∀ n, (∀ k, k < n → f k < 32) → ((tbN (orF f n)).testBit j = true ↔ ∃ k, k < n ∧ f k = j)
  | 0, _ => by
    show (tbN 0).testBit j = true ↔ _
    rw [show tbN 0 = 0 from rfl, Nat.zero_testBit]
    exact ⟨fun h => (by cases h), fun ⟨k, h, _⟩ => absurd h (Nat.not_lt_zero _)⟩
  | n + 1, h => by
    show (tbN (orF f n ||| (1 <<< (nI (f n) &&& 31)))).testBit j = true ↔ _
    rw [tb_or, tb_one _ (h n (by omega)), Nat.testBit_or, Bool.or_eq_true, or_bit n (fun k hk => h k (by omega)), Nat.testBit_two_pow, decide_eq_true_iff]
    constructor
    · rintro (⟨k, k1, k2⟩ | e)
      · exact ⟨k, by omega, k2⟩
      · exact ⟨n, by omega, e⟩
    · rintro ⟨k, k1, k2⟩
      by_cases c : k = n
      · subst c; exact Or.inr k2
      · exact Or.inl ⟨k, by omega, k2⟩
theorem bit_tb {x : Int32} {n : Nat} (hn : n < 32) : bitI x n = 1 ↔ (tbN x).testBit n = true := by
  rw [tb_bit hn, Nat.testBit_eq_decide_div_mod_eq, decide_eq_true_iff]
theorem or_mem {f : Nat → Nat} {n j : Nat} (h : ∀ k, k < n → f k < 32) : j ∈ bitsL (orF f n) 32 ↔ ∃ k, k < n ∧ f k = j := by
  rw [bits_mem 32]
  constructor
  · rintro ⟨a, b⟩; exact (or_bit n h).mp ((bit_tb a).mp b)
  · rintro ⟨k, k1, k2⟩
    have hj : j < 32 := by rw [← k2]; exact h k k1
    exact ⟨hj, (bit_tb hj).mpr ((or_bit n h).mpr ⟨k, k1, k2⟩)⟩
/-- a set whose bits are just the numbers f -/
theorem or_eq {f : Nat → Nat} {n : Nat} {x : Int32} (h : ∀ k, k < n → f k < 32) (hx : ∀ j, j ∈ bitsL x 32 ↔ ∃ k, k < n ∧ f k = j) : orF f n = x := by
  refine tb_ext (Nat.eq_of_testBit_eq fun j => ?_)
  by_cases hj : j < 32
  · have e : ((tbN (orF f n)).testBit j = true) ↔ ((tbN x).testBit j = true) := by
      rw [or_bit n h, ← hx j, bits_mem 32, ← bit_tb hj]
      exact ⟨fun z => z.2, fun z => ⟨hj, z⟩⟩
    cases e1 : (tbN (orF f n)).testBit j <;> cases e2 : (tbN x).testBit j
    · rfl
    · exact absurd (e.mpr e2) (by rw [e1]; decide)
    · exact absurd (e.mp e1) (by rw [e2]; decide)
    · rfl
  · have big : ∀ y : Int32, (tbN y).testBit j = false := fun y => Nat.testBit_lt_two_pow (Nat.lt_of_lt_of_le (tb_lt y) (Nat.pow_le_pow_right (by decide) (by omega)))
    rw [big, big]
theorem cnt_or {a s : Nat} : ∀ n, cntN (a ||| 2 ^ s) n ≤ cntN a n + (if s < n then 1 else 0)
  | 0 => Nat.zero_le _
  | n + 1 => by
    have ih := cnt_or (a := a) (s := s) n
    have b1 : (a ||| 2 ^ s) / 2 ^ n % 2 < 2 := Nat.mod_lt _ (by decide)
    have b2 : a / 2 ^ n % 2 < 2 := Nat.mod_lt _ (by decide)
    have e : n ≠ s → (a ||| 2 ^ s) / 2 ^ n % 2 = a / 2 ^ n % 2 := fun hn => by
      have t1 : (a ||| 2 ^ s).testBit n = a.testBit n := by
        rw [Nat.testBit_or, Nat.testBit_two_pow, decide_eq_false (fun z => hn z.symm), Bool.or_false]
      rw [Nat.testBit_eq_decide_div_mod_eq, Nat.testBit_eq_decide_div_mod_eq, decide_eq_decide] at t1
      omega
    show cntN (a ||| 2 ^ s) n + (a ||| 2 ^ s) / 2 ^ n % 2 ≤ cntN a n + a / 2 ^ n % 2 + (if s < n + 1 then 1 else 0)
    by_cases c : n = s
    · subst c
      rw [if_neg (Nat.lt_irrefl _)] at ih
      rw [if_pos (Nat.lt_succ_self _)]
      omega
    · rw [e c]
      split at ih <;> split <;> omega
theorem or_cnt {f : Nat → Nat} : ∀ n, (∀ k, k < n → f k < 32) → cntN (tbN (orF f n)) 32 ≤ n
  | 0, _ => by
    have e : ∀ m, cntN 0 m = 0 := fun m => by
      induction m with
      | zero => rfl
      | succ m ih => show cntN 0 m + 0 / 2 ^ m % 2 = 0; rw [ih, Nat.zero_div]
    show cntN (tbN 0) 32 ≤ 0
    rw [show tbN 0 = 0 from rfl, e]; exact Nat.le_refl _
  | n + 1, h => by
    show cntN (tbN (orF f n ||| (1 <<< (nI (f n) &&& 31)))) 32 ≤ n + 1
    have hn := h n (by omega)
    rw [tb_or, tb_one _ hn]
    have h1 := cnt_or (a := tbN (orF f n)) (s := f n) 32
    have h2 := or_cnt n (fun k hk => h k (by omega))
    rw [if_pos hn] at h1
    omega
theorem or_ok {f : Nat → Nat} {n cn : Nat} (hn : n ≤ 5) (h1 : 1 ≤ n) (hcn : cn ≤ 20) (h : ∀ k, k < n → f k < cn) : okT (orF f n) cn ∧ 1 ≤ (bitsL (orF f n) 32).length := by
  have h32 : ∀ k, k < n → f k < 32 := fun k hk => by have := h k hk; omega
  refine ⟨⟨fun b hb => ?_, ?_⟩, ?_⟩
  · obtain ⟨k, k1, k2⟩ := (or_mem h32).mp hb
    rw [← k2]; exact h k k1
  · rw [bits_cnt 32 (Nat.le_refl _)]
    have := or_cnt n h32; omega
  · have hm : f 0 ∈ bitsL (orF f n) 32 := (or_mem h32).mpr ⟨0, h1, rfl⟩
    exact List.length_pos_of_mem hm
theorem or_bad {x : Int32} {cn : Nat} (hcn : cn ≤ 20) : ¬ okT (x ||| (1 <<< (nI cn &&& 31))) cn := fun z => by
  have hj : cn < 32 := by omega
  have h : cn ∈ bitsL (x ||| (1 <<< (nI cn &&& 31))) 32 := (bits_mem 32).mpr ⟨hj, (bit_tb hj).mpr (by rw [tb_or, tb_one _ hj, Nat.testBit_or, Nat.testBit_two_pow_self, Bool.or_true])⟩
  exact absurd (z.1 cn h) (Nat.lt_irrefl _)
section KTOUR
variable {p : Nat → Int32} {d : Nat → UInt64} {x : Int32} {cn t : Nat}
theorem toB_P (h1 : 1 ≤ (bitsL x 32).length) (h5 : (bitsL x 32).length ≤ 5) : isP (bitsL x 32).length (toB p d x) ∧ toB p d x < pwN (bitsL x 32).length (bitsL x 32).length := by
  obtain ⟨b, e, hp, hb⟩ := bc_ex (m := (bitsL x 32).length) (f := tmC p d (meL (bitsL x 32)) (bitsL x 32).length) (pwN (bitsL x 32).length (bitsL x 32).length) (idP _ h1 h5)
  rw [toB_e e]; exact ⟨hp, hb⟩
theorem toP_mem (h1 : 1 ≤ (bitsL x 32).length) (k : Nat) : toP p d x k ∈ bitsL x 32 := by
  unfold toP meL
  have hk : dgN (bitsL x 32).length (toB p d x) k < (bitsL x 32).length := Nat.mod_lt _ (by omega)
  rw [List.getD_eq_getElem?_getD, List.getElem?_eq_getElem hk]
  exact List.getElem_mem hk
theorem toP_lt (hok : okT x cn) (h1 : 1 ≤ (bitsL x 32).length) (k : Nat) : toP p d x k < cn := hok.1 _ (toP_mem h1 k)
theorem toP_all (hok : okT x cn) (h1 : 1 ≤ (bitsL x 32).length) (hcn : cn ≤ 20) : orF (toP p d x) (bitsL x 32).length = x := by
  refine or_eq (fun k _ => by have := toP_lt (p := p) (d := d) hok h1 k; omega) fun j => ⟨fun hj => ?_, fun ⟨k, _, k2⟩ => by rw [← k2]; exact toP_mem h1 k⟩
  obtain ⟨i, hi, e⟩ := List.getElem_of_mem hj
  obtain ⟨hp, hb⟩ := toB_P (p := p) (d := d) h1 hok.2
  obtain ⟨k, k1, k2⟩ := pm_cov h1 hok.2 hp hb hi
  refine ⟨k, k1, ?_⟩
  unfold toP meL
  rw [k2, List.getD_eq_getElem?_getD, List.getElem?_eq_getElem hi]
  exact e
/-- the tour's time is that along its stars -/
theorem toS_e : toS p d x = (tmS p d (toP p d x) (bitsL x 32).length).1 := rfl
/-- the telescope behind n aims along the stars f -/
def goN (p : Nat → Int32) (d : Nat → UInt64) (f : Nat → Nat) : Nat → (Nat → Int32) × (Nat → UInt64)
  | 0 => (p, d)
  | n + 1 => (goP (goN p d f n).1 (goN p d f n).2 (f n), goD (goN p d f n).1 (goN p d f n).2 (f n))
theorem go_pl {k j : Nat} (hk : k < 20) (hj : j < 20) : plZ (goP p d k) (goD p d k) j = plZ p d j ∧ plT (goP p d k) (goD p d k) j = plT p d j ∧ sdS (goP p d k) j = sdS p j ∧ (plMA (goP p d k) (goD p d k) j = plMA p d j ∧ plMH (goP p d k) (goD p d k) j = plMH p d j) ∧ plA (goP p d k) (goD p d k) j = plA p d j := by
  have ea : azS (goP p d k) j = azS p j := az_go hj
  have eh : alS (goP p d k) j = alS p j := al_go hj
  have er : rgS (goP p d k) j = rgS p j := by unfold rgS; rw [ea, eh]
  have es : sdS (goP p d k) j = sdS p j := by unfold sdS; rw [ea]
  have eA : plA (goP p d k) (goD p d k) j = plA p d j := by unfold plA; rw [goP_l hk, goD_a, er]
  have eH : plH (goP p d k) (goD p d k) j = plH p d j := by unfold plH; rw [goP_l hk, goD_h, er]
  have eT : plT (goP p d k) (goD p d k) j = plT p d j := by unfold plT; rw [eh, eH]
  have eb : ∀ i h, i < 7 → bnF (goP p d k) i h = bnF p i h := fun i h hi => by unfold bnF; rw [goP_o (by omega), goP_o (by omega)]
  have hs : sdS p j < 2 := sdN_lt (azS p j)
  refine ⟨by unfold plZ; rw [ea, eA], eT, es, ⟨?_, ?_⟩, eA⟩
  · unfold plMA; rw [eA, es, eT, eb _ _ (by omega)]
  · unfold plMH; rw [eT, eh, es, eb _ _ (by omega)]
theorem goN_self {f : Nat → Nat} (hf : ∀ k, f k < 20) : ∀ n, plZ (goN p d f n).1 (goN p d f n).2 (f n) = plZ p d (f n) ∧ plT (goN p d f n).1 (goN p d f n).2 (f n) = plT p d (f n) ∧ sdS (goN p d f n).1 (f n) = sdS p (f n) := by
  intro n
  have h : ∀ m j, j < 20 → plZ (goN p d f m).1 (goN p d f m).2 j = plZ p d j ∧ plT (goN p d f m).1 (goN p d f m).2 j = plT p d j ∧ sdS (goN p d f m).1 j = sdS p j := by
    intro m
    induction m with
    | zero => intro j _; exact ⟨rfl, rfl, rfl⟩
    | succ m ih =>
      intro j hj
      have g := go_pl (p := (goN p d f m).1) (d := (goN p d f m).2) (hf m) hj
      have i := ih j hj
      exact ⟨g.1.trans i.1, g.2.1.trans i.2.1, g.2.2.1.trans i.2.2⟩
  exact h n (f n) (hf n)
theorem goN_pl {f : Nat → Nat} (hf : ∀ k, f k < 20) {j : Nat} (hj : j < 20) : ∀ n, (plZ (goN p d f n).1 (goN p d f n).2 j = plZ p d j ∧ plT (goN p d f n).1 (goN p d f n).2 j = plT p d j ∧ sdS (goN p d f n).1 j = sdS p j) ∧ ((goN p d f n).1 0 = p 0 ∧ (goN p d f n).1 3 = p 3 ∧ (goN p d f n).1 4 = p 4) ∧ alS (goN p d f n).1 j = alS p j ∧ (goN p d f n).1 13 = (tmS p d f n).2.1 ∧ (goN p d f n).1 14 = (tmS p d f n).2.2.1 ∧ (goN p d f n).1 15 = (tmS p d f n).2.2.2 := by
  intro n
  induction n with
  | zero => exact ⟨⟨rfl, rfl, rfl⟩, ⟨rfl, rfl, rfl⟩, rfl, rfl, rfl, rfl⟩
  | succ n ih =>
    have g := go_pl (p := (goN p d f n).1) (d := (goN p d f n).2) (hf n) hj
    refine ⟨⟨g.1.trans ih.1.1, g.2.1.trans ih.1.2.1, g.2.2.1.trans ih.1.2.2⟩, ⟨(goP_o (by decide)).trans ih.2.1.1, (goP_o (by decide)).trans ih.2.1.2.1, (goP_o (by decide)).trans ih.2.1.2.2⟩, (al_go hj).trans ih.2.2.1, ?_, ?_, ?_⟩
    all_goals
      have k := goN_self (p := p) (d := d) hf n
    · show goP (goN p d f n).1 (goN p d f n).2 (f n) 13 = ntF (tmS p d f n).2.1 (plZ p d (f n))
      rw [goP_13]; unfold ttS; rw [ih.2.2.2.1, k.1]
    · show goP (goN p d f n).1 (goN p d f n).2 (f n) 14 = plT p d (f n)
      rw [goP_14, k.2.1]
    · show goP (goN p d f n).1 (goN p d f n).2 (f n) 15 = nI (sdS p (f n))
      rw [goP_15, k.2.2]
/-- the leg of the aim behind n -/
theorem goN_leg {f : Nat → Nat} (hf : ∀ k, f k < 20) (n : Nat) : slN (goN p d f n).1 (goN p d f n).2 (f n) = slF (ntF (tmS p d f n).2.1 (plZ p d (f n))) (plT p d (f n)) (nI (sdS p (f n))) (tmS p d f n).2.1 (tmS p d f n).2.2.1 (tmS p d f n).2.2.2 (p 0) := by
  obtain ⟨⟨a1, a2, a3⟩, ⟨b1, -, -⟩, -, c1, c2, c3⟩ := goN_pl (p := p) (d := d) hf (hf n) n
  unfold slN slS
  rw [a1, a2, a3, b1, c1, c2, c3]
theorem goN_16 {f : Nat → Nat} (hf : ∀ k, f k < 20) : ∀ n, (goN p d f n).1 16 = p 16 + (tmS p d f n).1
  | 0 => (Int32.add_zero _).symm
  | n + 1 => by
    show goP (goN p d f n).1 (goN p d f n).2 (f n) 16 = p 16 + ((tmS p d f n).1 + _)
    rw [goP_16, goN_16 hf n, goN_leg hf n, Int32.add_assoc]
theorem tm_up (f : Nat → Nat) (h0 : 1 ≤ (p 0).toInt ∧ (p 0).toInt ≤ 600) (h13 : -16200 ≤ (p 13).toInt ∧ (p 13).toInt ≤ 16200) (h14 : 0 ≤ (p 14).toInt ∧ (p 14).toInt ≤ 5400) {n : Nat} (hn : n < 5) : ∃ v w, v ≤ w ∧ w ≤ 200000 ∧ (tmS p d f n).1 = nI v ∧ (tmS p d f (n + 1)).1 = nI w := by
  obtain ⟨⟨v, v1, v2⟩, g1, g2⟩ := tm_nat (d := d) f h0 h13 h14 n (by omega)
  have hz := cmF_toInt (azS p (f n) - rndF (plA p d (f n)))
  have z1 := Int.emod_nonneg (azS p (f n) - rndF (plA p d (f n))).toInt (show (21600 : Int) ≠ 0 by decide)
  have z2 := Int.emod_lt_of_pos (azS p (f n) - rndF (plA p d (f n))).toInt (show (0 : Int) < 21600 by decide)
  have hZ : 0 ≤ (plZ p d (f n)).toInt ∧ (plZ p d (f n)).toInt < 21600 := by
    show 0 ≤ (cmF (azS p (f n) - rndF (plA p d (f n)))).toInt ∧ (cmF (azS p (f n) - rndF (plA p d (f n)))).toInt < 21600
    omega
  have hT : 0 ≤ (plT p d (f n)).toInt ∧ (plT p d (f n)).toInt ≤ 5400 := (hg_rng (alS p (f n) - rndF (plH p d (f n)))).1
  obtain ⟨w, w1, w2⟩ := sl_nat (sd := nI (sdS p (f n))) (s0 := (tmS p d f n).2.2.2) (sp := p 0) (nt_rng hZ) g1 hT g2 h0
  refine ⟨v, v + w, by omega, by omega, v2, ?_⟩
  show (tmS p d f n).1 + slF (ntF (tmS p d f n).2.1 (plZ p d (f n))) (plT p d (f n)) (nI (sdS p (f n))) (tmS p d f n).2.1 (tmS p d f n).2.2.1 (tmS p d f n).2.2.2 (p 0) = _
  rw [v2, w2]; exact nI_add v w
theorem tm_mono (f : Nat → Nat) (h0 : 1 ≤ (p 0).toInt ∧ (p 0).toInt ≤ 600) (h13 : -16200 ≤ (p 13).toInt ∧ (p 13).toInt ≤ 16200) (h14 : 0 ≤ (p 14).toInt ∧ (p 14).toInt ≤ 5400) {k : Nat} : ∀ m, k + m ≤ 5 → ∃ v w, v ≤ w ∧ w ≤ 200000 ∧ (tmS p d f k).1 = nI v ∧ (tmS p d f (k + m)).1 = nI w
  | 0, h => by
    obtain ⟨⟨v, v1, v2⟩, -⟩ := tm_nat (d := d) f h0 h13 h14 k (by omega)
    exact ⟨v, v, Nat.le_refl _, by omega, v2, v2⟩
  | m + 1, h => by
    obtain ⟨v, w, e1, e2, e3, e4⟩ := tm_mono f h0 h13 h14 (k := k) m (by omega)
    obtain ⟨v2, w2, f1, f2, f3, f4⟩ := tm_up (d := d) f h0 h13 h14 (n := k + m) (by omega)
    have e : w = v2 := nI_inj9 (e4.symm.trans f3) (by omega) (by omega)
    exact ⟨v, w2, by omega, f2, e3, f4⟩
/-- each aim of a tour that is in time can be made -/
theorem goN_cp {f : Nat → Nat} {k m : Nat} (hA : qjA cn t p) (h16 : 0 ≤ (p 16).toInt ∧ (p 16).toInt ≤ 1000000) (hf : ∀ k, f k < 20) (hk : k < m) (hm : m ≤ 5) (hw : wiP p (f k)) (ha : ¬ 1000000 < p 16 + (tmS p d f m).1) : cpP (goN p d f k).1 (goN p d f k).2 (f k) := by
  obtain ⟨-, ⟨-, b2, b3⟩, b4, -⟩ := goN_pl (p := p) (d := d) hf (hf k) k
  refine ⟨?_, ?_⟩
  · unfold wiP at hw ⊢; rw [b4, b2, b3]; exact hw
  · rw [goN_16 hf, goN_leg hf, Int32.add_assoc]
    show ¬ 1000000 < p 16 + (tmS p d f (k + 1)).1
    obtain ⟨v, w, e1, e2, e3, e4⟩ := tm_mono (d := d) f hA.2.1.1 hA.2.2.2.1.1 hA.2.2.2.1.2 (k := k + 1) (m - (k + 1)) (by omega)
    rw [show k + 1 + (m - (k + 1)) = m by omega] at e4
    have e := nI_of_toInt h16.1
    rw [e, e4, nI_add, Int32.lt_iff_toInt_lt, nI_toInt (by omega), show (1000000 : Int32).toInt = 1000000 from rfl] at ha
    rw [e, e3, nI_add, Int32.lt_iff_toInt_lt, nI_toInt (by omega), show (1000000 : Int32).toInt = 1000000 from rfl]
    omega
theorem goN_kJ {f : Nat → Nat} {m : Nat} (h : kJ cn t p d) (ht : t + 5 ≤ JT) (hm : m ≤ 5) (hf : ∀ k, f k < cn) (hw : ∀ k, k < m → wiP p (f k)) (ha : ¬ 1000000 < p 16 + (tmS p d f m).1) : ∀ k, k ≤ m → kJ cn (t + k) (goN p d f k).1 (goN p d f k).2
  | 0, _ => h
  | k + 1, hk => by
    have hcn := h.1.1.1.1
    have ih := goN_kJ h ht hm hf hw ha k (by omega)
    have g := kj_go ih (by omega) (hf k) (goN_cp h.1.1 h.2.2.1 (fun j => by have := hf j; omega) (by omega) hm (hw k (by omega)) ha)
    exact g
/-- the first leg is no longer than the tour -/
theorem to_first (hA : qjA cn t p) (h1 : 1 ≤ (bitsL x 32).length) (h5 : (bitsL x 32).length ≤ 5) : ¬ toS p d x < slN p d (toP p d x 0) := by
  obtain ⟨v, w, e1, e2, e3, e4⟩ := tm_mono (d := d) (toP p d x) hA.2.1.1 hA.2.2.2.1.1 hA.2.2.2.1.2 (k := 1) ((bitsL x 32).length - 1) (by omega)
  rw [show 1 + ((bitsL x 32).length - 1) = (bitsL x 32).length by omega] at e4
  have e5 : (tmS p d (toP p d x) 1).1 = slN p d (toP p d x 0) := by
    show (0 : Int32) + slN p d (toP p d x 0) = _
    exact Int32.zero_add _
  rw [toS_e, e4, ← e5, e3]
  exact fun z => by have := nI_lt_of z (by omega) (by omega); omega
theorem to_rng (hA : qjA cn t p) (h5 : (bitsL x 32).length ≤ 5) : ∃ v, v ≤ 200000 ∧ toS p d x = nI v := by
  obtain ⟨⟨v, v1, v2⟩, -⟩ := tm_nat (d := d) (toP p d x) hA.2.1.1 hA.2.2.2.1.1 hA.2.2.2.1.2 (bitsL x 32).length h5
  exact ⟨v, by omega, by rw [toS_e]; exact v2⟩
/-! an aim's own answers -/
theorem nt_nt (u z : Int32) : ntF (ntF u z) z = ntF u z := by
  have h0 : ∀ a : Int32, absI (a - a) = 0 := fun a => by rw [Int32.sub_self]; rfl
  have hp : ∀ a : Int32, -32400 ≤ a.toInt → a.toInt ≤ 32400 → ¬ absI a < 0 := fun a q1 q2 => by
    obtain ⟨n, n1, n2⟩ := ab_nat (x := a) (M := 32400) (by decide) ⟨by omega, by omega⟩
    rw [n2]; exact nI_pos (by omega)
  unfold ntF
  by_cases c1 : -16200 ≤ z - 21600
  · rw [if_pos c1, if_pos c1]
    by_cases c2 : z ≤ 16200
    · rw [if_pos c2, if_pos c2]
      by_cases c3 : absI (z - 21600 - u) ≤ absI (z - u)
      · rw [if_pos c3]
        split
        · rfl
        · rename_i q
          rw [h0] at q
          have k : (21600 : Int32).toInt = 21600 := rfl
          refine absurd ?_ q
          have e : z - (z - 21600) = 21600 := Int32.sub_eq_iff_eq_add.mpr (by rw [Int32.add_comm, Int32.sub_add_cancel])
          rw [e]; decide
      · rw [if_neg c3]
        split
        · rename_i q
          rw [h0] at q
          have e : z - 21600 - z = -21600 := by
            rw [Int32.sub_sub]
            exact Int32.sub_eq_iff_eq_add.mpr (by rw [← Int32.add_assoc, Int32.add_left_neg, Int32.zero_add])
          rw [e] at q
          exact absurd q (by decide)
        · rfl
    · rw [if_neg c2, if_neg c2]
  · rw [if_neg c1, if_neg c1]
theorem sl_self {k : Nat} (hk : k < 20) (h0 : 1 ≤ (p 0).toInt ∧ (p 0).toInt ≤ 600) : slN (goP p d k) (goD p d k) k = 0 := by
  obtain ⟨a1, a2, a3, -⟩ := go_pl (p := p) (d := d) hk hk
  unfold slN slS
  rw [a1, a2, a3, goP_13, goP_14, goP_15, goP_o (by decide)]
  unfold ttS slF
  rw [nt_nt, if_pos rfl]
  unfold tmF
  rw [Int32.sub_self, Int32.sub_self]
  obtain ⟨v, v1, v2⟩ := du_nat (n := 0) (by decide) h0
  have e : v = 0 := by omega
  rw [show mxI (absI 0) (absI 0) = nI 0 by decide, v2, e]; rfl
end KTOUR

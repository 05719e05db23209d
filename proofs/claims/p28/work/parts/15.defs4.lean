/-! The state: its pages, and what an aim makes of it. -/
def pg (p : Nat → Int32) (lo n : Nat) : Nat → Int32 := fun i => if i < n then p (lo + i) else 0
def p4 (p : Nat → Int32) (lo n : Nat) : Nat → Int32 := fun i => if i < n then p (lo + 4 * i) else 0
def d2 (d : Nat → UInt64) (k n : Nat) : Nat → UInt64 := fun i => if i < n then d (2 * i + k) else 0
theorem pg_at {p : Nat → Int32} {lo n i : Nat} (h : i < n) : pg p lo n i = p (lo + i) := if_pos h
theorem p4_at {p : Nat → Int32} {lo n i : Nat} (h : i < n) : p4 p lo n i = p (lo + 4 * i) := if_pos h
theorem d2_at {d : Nat → UInt64} {k n i : Nat} (h : i < n) : d2 d k n i = d (2 * i + k) := if_pos h
theorem pg_out {p : Nat → Int32} {lo n m : Nat} {v : Int32} (h : m < lo ∨ lo + n ≤ m) : pg (upd p m v) lo n = pg p lo n := by
  funext i; unfold pg upd; split
  · rw [if_neg (by omega)]
  · rfl
theorem p4_out {p : Nat → Int32} {lo n m : Nat} {v : Int32} (h : m < lo ∨ lo + 4 * n ≤ m ∨ m % 4 ≠ lo % 4) : p4 (upd p m v) lo n = p4 p lo n := by
  funext i; unfold p4 upd; split
  · rw [if_neg (by omega)]
  · rfl
theorem pg_in {p : Nat → Int32} {lo n k : Nat} {v : Int32} (h : k < n) : pg (upd p (lo + k) v) lo n = upd (pg p lo n) k v := by
  funext i; unfold pg upd
  by_cases hi : i = k
  · subst hi; rw [if_pos h, if_pos rfl, if_pos rfl]
  · rw [if_neg hi]
    show _ = if i < n then p (lo + i) else 0
    by_cases hn : i < n
    · rw [if_pos hn, if_pos hn, if_neg (by omega)]
    · rw [if_neg hn, if_neg hn]
theorem p4_in {p : Nat → Int32} {lo n k : Nat} {v : Int32} (h : k < n) : p4 (upd p (lo + 4 * k) v) lo n = upd (p4 p lo n) k v := by
  funext i; unfold p4 upd
  by_cases hi : i = k
  · subst hi; rw [if_pos h, if_pos rfl, if_pos rfl]
  · rw [if_neg hi]
    show _ = if i < n then p (lo + 4 * i) else 0
    by_cases hn : i < n
    · rw [if_pos hn, if_pos hn, if_neg (by omega)]
    · rw [if_neg hn, if_neg hn]
theorem d2_out {d : Nat → UInt64} {k n m : Nat} {v : UInt64} (h : 2 * n ≤ m ∨ m % 2 ≠ k % 2) (hk : k < 2) : d2 (vf_upd d m v) k n = d2 d k n := by
  funext i; unfold d2 vf_upd; split
  · rw [if_neg (by omega)]
  · rfl
theorem d2_in {d : Nat → UInt64} {k n r : Nat} {v : UInt64} (h : r < n) : d2 (vf_upd d (2 * r + k) v) k n = vf_upd (d2 d k n) r v := by
  funext i; unfold d2 vf_upd
  by_cases hi : i = r
  · subst hi; rw [if_pos h, if_pos rfl, if_pos rfl]
  · rw [if_neg hi]
    show _ = if i < n then d (2 * i + k) else 0
    by_cases hn : i < n
    · rw [if_pos hn, if_pos hn, if_neg (by omega)]
    · rw [if_neg hn, if_neg hn]
def j6 (a b c d e f : Int32) : Nat → Int32
  | 0 => a
  | 1 => b
  | 2 => c
  | 3 => d
  | 4 => e
  | _ => f
def d4 (a b c d : UInt64) : Nat → UInt64
  | 0 => a
  | 1 => b
  | 2 => c
  | _ => d
def fdP (x : UInt64) (f : Int32) : Prop := ¬ 0 < Op.cmpValue (FP.dcmp x (FP.i2d f)) .g
def bnF (pp : Nat → Int32) (i : Nat) (h : Int32) : UInt64 := FP.dadd (FP.i2d (pp (5 + i))) (FP.ddiv (FP.dmul (FP.i2d (pp (5 + (i + 1)))) (FP.i2d h)) 4662659377491083264)
def bnOK (pp : Nat → Int32) (i : Nat) (h : Int32) : Prop := vf_n64 (FP.dmul (FP.i2d (pp (5 + (i + 1)))) (FP.i2d h)) ∧ vf_n64 (FP.ddiv (FP.dmul (FP.i2d (pp (5 + (i + 1)))) (FP.i2d h)) 4662659377491083264) ∧ vf_n64 (bnF pp i h)
/-- the azimuth of a command, brought into 0 to 21599 -/
def cmF (x : Int32) : Int32 := nI (x.toInt % 21600).toNat
theorem i32_eq {a b : Int32} (h : a.toInt = b.toInt) : a = b := Int32.toInt_inj.mp h
theorem cmF_toInt (x : Int32) : (cmF x).toInt = x.toInt % 21600 := by
  have h1 := Int.emod_nonneg x.toInt (show (21600 : Int) ≠ 0 by decide)
  have h2 := Int.emod_lt_of_pos x.toInt (show (0 : Int) < 21600 by decide)
  unfold cmF
  rw [nI_toInt (by omega)]
  omega
theorem xor_sign (x : Int32) : 0 ≤ (x ^^^ 21600) ↔ 0 ≤ x := by
  rw [Int32.le_iff_toInt_le, Int32.le_iff_toInt_le]
  have h0 : (0 : Int32).toInt = 0 := rfl
  rw [h0]
  have e : ∀ y : Int32, (0 ≤ y.toInt) ↔ y.toBitVec.msb = false := by
    intro y
    have : y.toInt = y.toBitVec.toInt := rfl
    rw [this]
    constructor
    · intro h
      cases hm : y.toBitVec.msb with
      | false => rfl
      | true =>
        have := BitVec.toInt_neg_of_msb_true hm
        omega
    · intro h
      exact BitVec.toInt_nonneg_of_msb_false h
  rw [e, e]
  have hx : (x ^^^ 21600).toBitVec = x.toBitVec ^^^ (21600 : Int32).toBitVec := Int32.toBitVec_xor x 21600
  rw [hx, BitVec.msb_xor, show (21600 : Int32).toBitVec.msb = false from rfl, Bool.xor_false]
theorem fm_toInt (x : Int32) : (x - x / 21600 * 21600).toInt = x.toInt.tmod 21600 := rem_toInt x 21600
theorem fm_pos {x : Int32} (h : 0 ≤ (x ^^^ 21600)) : x - x / 21600 * 21600 = cmF x := by
  have h1 := (xor_sign x).mp h
  rw [Int32.le_iff_toInt_le] at h1
  have h0 : (0 : Int32).toInt = 0 := rfl
  rw [h0] at h1
  refine i32_eq ?_
  rw [fm_toInt, cmF_toInt, Int.tmod_eq_emod_of_nonneg h1]
theorem fm_neg_aux {x : Int32} (h : ¬ 0 ≤ (x ^^^ 21600)) : x.toInt < 0 := by
  have h1 := mt (xor_sign x).mpr h
  rw [Int32.le_iff_toInt_le] at h1
  have h0 : (0 : Int32).toInt = 0 := rfl
  rw [h0] at h1
  omega
theorem tmod_neg_facts {a : Int} (h : a < 0) : a.tmod 21600 = -((-a) % 21600) := by
  rw [← Int.neg_neg a, Int.neg_tmod, Int.neg_neg, Int.tmod_eq_emod_of_nonneg (by omega)]
theorem fm_zero {x : Int32} (h : ¬ 0 ≤ (x ^^^ 21600)) (c : x - x / 21600 * 21600 = 0) : x - x / 21600 * 21600 = cmF x := by
  have hn := fm_neg_aux h
  refine i32_eq ?_
  have e : (x - x / 21600 * 21600).toInt = 0 := by rw [c]; rfl
  rw [e, cmF_toInt]
  rw [fm_toInt, tmod_neg_facts hn] at e
  omega
theorem fm_neg {x : Int32} (h : ¬ 0 ≤ (x ^^^ 21600)) (c : ¬ x - x / 21600 * 21600 = 0) : x - x / 21600 * 21600 + 21600 = cmF x := by
  have hn := fm_neg_aux h
  refine i32_eq ?_
  have e := fm_toInt x
  rw [tmod_neg_facts hn] at e
  have hz : (x - x / 21600 * 21600).toInt ≠ 0 := fun z => c (i32_eq z)
  have k : (21600 : Int32).toInt = 21600 := rfl
  have h1 := Int.emod_nonneg (-x.toInt) (show (21600 : Int) ≠ 0 by decide)
  have h2 := Int.emod_lt_of_pos (-x.toInt) (show (0 : Int) < 21600 by decide)
  rw [Jvm.Kit.i32_add (by rw [k]; omega) (by rw [k]; omega), k, e, cmF_toInt]
  rw [e] at hz
  omega
def hgF (x : Int32) : Int32 := if x < 0 then 0 else if 5400 < x then 5400 else x
theorem hg_mm (x : Int32) : mxI 0 (mnI 5400 x) = hgF x := by
  unfold mxI mnI hgF
  by_cases h1 : x < 0
  · have h2 : x < 5400 := by
      rw [Int32.lt_iff_toInt_lt] at h1 ⊢
      have h0 : (0 : Int32).toInt = 0 := rfl
      have k : (5400 : Int32).toInt = 5400 := rfl
      omega
    have h3 : ¬ (0 : Int32) < x := by
      rw [Int32.lt_iff_toInt_lt] at h1 ⊢
      have h0 : (0 : Int32).toInt = 0 := rfl
      omega
    rw [if_pos h2, if_neg h3, if_pos h1]
  · rw [if_neg h1]
    by_cases h2 : 5400 < x
    · have h3 : ¬ x < 5400 := by
        rw [Int32.lt_iff_toInt_lt] at h2 ⊢
        omega
      rw [if_neg h3, if_pos h2]; rfl
    · rw [if_neg h2]
      by_cases h3 : x < 5400
      · rw [if_pos h3]
        by_cases h4 : 0 < x
        · rw [if_pos h4]
        · rw [if_neg h4]
          refine i32_eq ?_
          rw [Int32.lt_iff_toInt_lt] at h1 h4
          omega
      · rw [if_neg h3]
        have e : x = 5400 := by
          refine i32_eq ?_
          rw [Int32.lt_iff_toInt_lt] at h2 h3
          omega
        rw [e]; rfl
def sdN (a : Int32) : Nat := if 10800 ≤ a then 1 else 0
theorem sdN_lt (a : Int32) : sdN a < 2 := by unfold sdN; split <;> decide
theorem sdF_nI (a : Int32) : sdF a = nI (sdN a) := by unfold sdF sdN; split <;> rfl
def rgN (a h : Int32) : Nat := 3 * (a.toInt.toNat / 2700) + h.toInt.toNat / 1801
/-- a star's place is in range -/
def inS (a h : Int32) : Prop := (0 ≤ a.toInt ∧ a.toInt ≤ 21599) ∧ 0 ≤ h.toInt ∧ h.toInt ≤ 5400
theorem nI_of_toInt {x : Int32} (h : 0 ≤ x.toInt) : x = nI x.toInt.toNat := by
  refine i32_eq ?_
  have := Int32.toInt_lt x
  rw [nI_toInt (by omega)]
  omega
theorem rgF_nI {a h : Int32} (z : inS a h) : rgF a h = nI (rgN a h) := by
  obtain ⟨⟨a1, a2⟩, h1, h2⟩ := z
  unfold rgF rgN
  rw [nI_of_toInt a1, nI_of_toInt h1]
  rw [show (nI a.toInt.toNat).toInt.toNat = a.toInt.toNat by rw [nI_toInt (by omega)]; omega, show (nI h.toInt.toNat).toInt.toNat = h.toInt.toNat by rw [nI_toInt (by omega)]; omega]
  exact ix_add (ix_mul (a := 3) rfl (ix_div (b := 2700) rfl rfl (by omega) (by decide) (by decide))) (ix_div (b := 1801) rfl rfl (by omega) (by decide) (by decide))
theorem rgN_lt {a h : Int32} (z : inS a h) : rgN a h < 24 := by
  obtain ⟨⟨a1, a2⟩, h1, h2⟩ := z
  unfold rgN; omega
-- the plan of an aim at star k
abbrev azS (pp : Nat → Int32) (k : Nat) : Int32 := pp (23 + 4 * k)
abbrev alS (pp : Nat → Int32) (k : Nat) : Int32 := pp (24 + 4 * k)
abbrev rgS (pp : Nat → Int32) (k : Nat) : Nat := rgN (azS pp k) (alS pp k)
abbrev sdS (pp : Nat → Int32) (k : Nat) : Nat := sdN (azS pp k)
def plA (pp : Nat → Int32) (dd : Nat → UInt64) (k : Nat) : UInt64 := hldF (pg pp 103 24) (d2 dd 0 24) (rgS pp k)
def plH (pp : Nat → Int32) (dd : Nat → UInt64) (k : Nat) : UInt64 := hldF (pg pp 103 24) (d2 dd 1 24) (rgS pp k)
def plZ (pp : Nat → Int32) (dd : Nat → UInt64) (k : Nat) : Int32 := cmF (azS pp k - rndF (plA pp dd k))
def plT (pp : Nat → Int32) (dd : Nat → UInt64) (k : Nat) : Int32 := hgF (alS pp k - rndF (plH pp dd k))
def plMA (pp : Nat → Int32) (dd : Nat → UInt64) (k : Nat) : UInt64 := FP.dadd (FP.i2d (-(rndF (plA pp dd k)))) (bnF pp (4 * sdS pp k + 0) (plT pp dd k))
def plMH (pp : Nat → Int32) (dd : Nat → UInt64) (k : Nat) : UInt64 := FP.dadd (FP.i2d (plT pp dd k - alS pp k)) (bnF pp (4 * sdS pp k + 2) (plT pp dd k))
/-- no NaN on the way -/
def plOK (pp : Nat → Int32) (dd : Nat → UInt64) (k : Nat) : Prop :=
  (vf_n64 (FP.dadd (plA pp dd k) 4602678819172646912) ∧ vf_n64 (FP.dsub 4602678819172646912 (plA pp dd k))) ∧ (vf_n64 (FP.dadd (plH pp dd k) 4602678819172646912) ∧ vf_n64 (FP.dsub 4602678819172646912 (plH pp dd k))) ∧
  bnOK pp (4 * sdS pp k + 0) (plT pp dd k) ∧ bnOK pp (4 * sdS pp k + 2) (plT pp dd k) ∧ vf_n64 (plMA pp dd k) ∧ vf_n64 (plMH pp dd k)
def wiP (pp : Nat → Int32) (k : Nat) : Prop := ¬ alS pp k < pp 3 ∧ ¬ pp 4 < alS pp k
/-- the time of a slew to star k from a turn, a height, a side -/
def slS (pp : Nat → Int32) (dd : Nat → UInt64) (k : Nat) (t h s : Int32) : Int32 := slF (ntF t (plZ pp dd k)) (plT pp dd k) (nI (sdS pp k)) t h s (pp 0)
theorem g_metF {l : Launch} {y : MethodName} {cc : ByteArray} {maxL : Nat} {ret : Option FieldType} {rm : Room} {av : List Value} {D : va_G} {g : Nat → ClassId} {ws : va_W} {sz : Nat} {QcA : (Nat → Prop) → Array Value → State → Outcome → State → Prop} {mc ms : Nat} (hy : plainFor y = true) (hlen : (lg_sl av).length ≤ maxL)
    (body : ∀ (p : Program) (e : Env) (s : State) (m : MethodId) (below : List Frame) (meth : Method) (c : Code) (A : Nat → Prop) (Q : State → Prop) (ls : Array Slot), Ev p s m av.toArray c cc maxL y.cls D g → (meth.sig.returnType = ret ∧ meth.locks = false ∧ meth.name = y.name) → va_P D vwCl ws s.heap → va_D A ws → va_S A s.heap s.heap [] → (∀ q, s.heap.size ≤ q → A q) → Q = MQ below (QcA A) av.toArray s mc ms A → lv_has ls maxL (lv_args 0 av) → W p l e rm s m av.toArray below meth c s.heap [] 0 0 Q (F0 m 0 ls [])) :
    Met l y (Cond.code y cc maxL ret :: WA) rm (va_Pc av (Pre D g ws sz)) (QcA (va_A ws sz)) mc ms (va_A ws sz) := by
  refine va_MetF (cc := cc) (maxL := maxL) (ret := ret) hy rfl ?_
  intro p e s m args below meth c s₁ B hml hv
  obtain ⟨rfl, hsz, hP, hK, hD0, hN⟩ := hv
  have hts := atoms_spec (ws := Cond.code y cc maxL ret :: WA) B.pre
  have hown : s.vm.findClass y.cls = some m.cls := findClass_of_methodNamed B.named
  have hin : meth.name = y.name := (name_of_methodNamed B.named B.method).1
  subst hsz
  have hl := lv_entry av (n := maxL) hlen
  rw [lg_entry_eq]
  exact body p e s m below meth c (va_A ws s.heap.size) _ _ ⟨⟨B.exec, B.bytes, hml, hown, fun w hw => hts w (List.mem_cons_of_mem _ hw)⟩, hK, hN⟩ ⟨B.returns, B.notSynchronized, hin⟩ hP hD0.self va_S.rf (fun q h => Or.inr h) rfl hl

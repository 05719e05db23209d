/-! Cuts by a mask: in one pass. -/
def mT {α : Type} : List Bool → List α → List α
  | true :: M, a :: w => a :: mT M w
  | false :: M, _ :: w => mT M w
  | _, _ => []
def mF {α : Type} : List Bool → List α → List α
  | true :: M, _ :: w => mF M w
  | false :: M, a :: w => a :: mF M w
  | [], w => w
  | _, [] => []
/-- the places of a mask: where it says v -/
def mI (v : Bool) : Nat → List Bool → List Nat
  | _, [] => []
  | k, a :: M => if a = v then k :: mI v (k + 1) M else mI v (k + 1) M
/-- back: the rest's cells from r on, the others from c on -/
def mP : List Bool → Nat → Nat → List Nat
  | [], _, _ => []
  | true :: M, r, c => c :: mP M r (c + 1)
  | false :: M, r, c => r :: mP M (r + 1) c
/-- the two lists laid together again -/
def mJ {α : Type} : List Bool → List α → List α → List α
  | true :: M, wr, a :: w => a :: mJ M wr w
  | false :: M, a :: wr, w => a :: mJ M wr w
  | _, _, _ => []
def cT : List Bool → Nat
  | [] => 0
  | true :: M => cT M + 1
  | false :: M => cT M
def cF : List Bool → Nat
  | [] => 0
  | true :: M => cF M
  | false :: M => cF M + 1
section MSK
variable {α : Type}
theorem mI_ge {v : Bool} : ∀ (M : List Bool) (k i : Nat), i ∈ mI v k M → k ≤ i
  | [], k, i, h => by cases h
  | a :: M, k, i, h => by
    unfold mI at h
    split at h
    · rcases List.mem_cons.mp h with e | h
      · omega
      · have := mI_ge M (k + 1) i h; omega
    · have := mI_ge M (k + 1) i h; omega
theorem mI_nd {v : Bool} : ∀ (M : List Bool) (k : Nat), va_nd (mI v k M) = true
  | [], k => rfl
  | a :: M, k => by
    unfold mI
    split
    · show (decide (k ∉ mI v (k + 1) M) && va_nd (mI v (k + 1) M)) = true
      rw [mI_nd M (k + 1), Bool.and_true]
      exact decide_eq_true fun h => by have := mI_ge M (k + 1) k h; omega
    · exact mI_nd M (k + 1)
theorem mI_dis : ∀ (M : List Bool) (k i : Nat), i ∈ mI false k M → i ∉ mI true k M
  | [], k, i, h => by cases h
  | true :: M, k, i, h => by
    have h' : i ∈ mI false (k + 1) M := by unfold mI at h; rw [if_neg (by decide)] at h; exact h
    have h1 := mI_ge M (k + 1) i h'
    unfold mI
    rw [if_pos rfl]
    intro z
    rcases List.mem_cons.mp z with e | z
    · omega
    · exact mI_dis M (k + 1) i h' z
  | false :: M, k, i, h => by
    unfold mI
    rw [if_neg (by decide)]
    unfold mI at h
    rw [if_pos rfl] at h
    rcases List.mem_cons.mp h with e | h
    · intro z; have := mI_ge M (k + 1) i z; omega
    · exact mI_dis M (k + 1) i h
theorem mT_map {pre : List α} : ∀ (M : List Bool) (w : List α), M.length = w.length → ∀ p : List α, (mI true p.length M).map (fun i => (p ++ w)[i]?) = (mT M w).map some
  | [], w, h, p => by cases w with
    | nil => rfl
    | cons a t => cases h
  | true :: M, [], h, p => by cases h
  | false :: M, [], h, p => by cases h
  | true :: M, a :: w, h, p => by
    unfold mI mT
    rw [if_pos rfl, List.map_cons, List.map_cons]
    have e : p ++ a :: w = (p ++ [a]) ++ w := by simp
    have ih := mT_map (pre := pre) M w (by simpa using h) (p ++ [a])
    rw [List.length_append] at ih
    rw [e]
    congr 1
    · rw [List.append_assoc]; simp
  | false :: M, a :: w, h, p => by
    unfold mI mT
    rw [if_neg (by decide)]
    have e : p ++ a :: w = (p ++ [a]) ++ w := by simp
    have ih := mT_map (pre := pre) M w (by simpa using h) (p ++ [a])
    rw [List.length_append] at ih
    rw [e]; exact ih
theorem mF_map {pre : List α} : ∀ (M : List Bool) (w : List α), M.length = w.length → ∀ p : List α, (mI false p.length M).map (fun i => (p ++ w)[i]?) = (mF M w).map some
  | [], w, h, p => by cases w with
    | nil => rfl
    | cons a t => cases h
  | true :: M, [], h, p => by cases h
  | false :: M, [], h, p => by cases h
  | false :: M, a :: w, h, p => by
    unfold mI mF
    rw [if_pos rfl, List.map_cons, List.map_cons]
    have e : p ++ a :: w = (p ++ [a]) ++ w := by simp
    have ih := mF_map (pre := pre) M w (by simpa using h) (p ++ [a])
    rw [List.length_append] at ih
    rw [e]
    congr 1
    · rw [List.append_assoc]; simp
  | true :: M, a :: w, h, p => by
    unfold mI mF
    rw [if_neg (by decide)]
    have e : p ++ a :: w = (p ++ [a]) ++ w := by simp
    have ih := mF_map (pre := pre) M w (by simpa using h) (p ++ [a])
    rw [List.length_append] at ih
    rw [e]; exact ih
theorem mP_map : ∀ (M : List Bool) (wr w : List α), cF M = wr.length → cT M = w.length → ∀ (p q : List α), (mP M p.length (p.length + wr.length + q.length)).map (fun i => (p ++ wr ++ q ++ w)[i]?) = (mJ M wr w).map some
  | [], wr, w, h1, h2, p, q => by
    unfold mJ mP; rfl
  | true :: M, wr, [], h1, h2, p, q => by cases h2
  | true :: M, wr, a :: w, h1, h2, p, q => by
    unfold mP mJ
    rw [List.map_cons, List.map_cons]
    have ih := mP_map M wr w h1 (by simpa [cT] using h2) p (q ++ [a])
    rw [List.length_append] at ih
    have e : p ++ wr ++ (q ++ [a]) ++ w = p ++ wr ++ q ++ a :: w := by simp
    rw [e] at ih
    have e2 : (p ++ wr ++ q ++ a :: w)[p.length + wr.length + q.length]? = some a := by
      rw [show p.length + wr.length + q.length = (p ++ wr ++ q).length by simp [Nat.add_assoc], List.getElem?_append_right (Nat.le_refl _), Nat.sub_self]; rfl
    rw [e2]
    congr 1
  | false :: M, [], w, h1, h2, p, q => by cases h1
  | false :: M, a :: wr, w, h1, h2, p, q => by
    unfold mP mJ
    rw [List.map_cons, List.map_cons]
    have ih := mP_map M wr w (by simpa [cF] using h1) h2 (p ++ [a]) q
    have e : p ++ [a] ++ wr ++ q ++ w = p ++ a :: wr ++ q ++ w := by simp
    rw [e, List.length_append] at ih
    have e2 : (p ++ a :: wr ++ q ++ w)[p.length]? = some a := by simp
    rw [e2]
    congr 1
    rw [show p.length + (a :: wr).length + q.length = p.length + [a].length + wr.length + q.length by simp; omega]
    exact ih
theorem mP_ge : ∀ (M : List Bool) (r c i : Nat), i ∈ mP M r c → r + cF M ≤ c → (r ≤ i ∧ i < r + cF M) ∨ (c ≤ i ∧ i < c + cT M)
  | [], r, c, i, h, hc => by cases h
  | true :: M, r, c, i, h, hc => by
    unfold mP at h
    have h0 : cF (true :: M) = cF M := rfl
    have h1 : cT (true :: M) = cT M + 1 := rfl
    rcases List.mem_cons.mp h with e | h
    · omega
    · have := mP_ge M r (c + 1) i h (by omega); omega
  | false :: M, r, c, i, h, hc => by
    unfold mP at h
    have h0 : cF (false :: M) = cF M + 1 := rfl
    have h1 : cT (false :: M) = cT M := rfl
    rcases List.mem_cons.mp h with e | h
    · omega
    · have := mP_ge M (r + 1) c i h (by omega); omega
theorem mP_nd : ∀ (M : List Bool) (r c : Nat), r + cF M ≤ c → va_nd (mP M r c) = true
  | [], r, c, hc => rfl
  | true :: M, r, c, hc => by
    have h0 : cF (true :: M) = cF M := rfl
    unfold mP
    show (decide (c ∉ mP M r (c + 1)) && va_nd (mP M r (c + 1))) = true
    rw [mP_nd M r (c + 1) (by omega), Bool.and_true]
    exact decide_eq_true fun h => by have := mP_ge M r (c + 1) c h (by omega); omega
  | false :: M, r, c, hc => by
    have h0 : cF (false :: M) = cF M + 1 := rfl
    unfold mP
    show (decide (r ∉ mP M (r + 1) c) && va_nd (mP M (r + 1) c)) = true
    rw [mP_nd M (r + 1) c (by omega), Bool.and_true]
    exact decide_eq_true fun h => by have := mP_ge M (r + 1) c r h (by omega); omega
end MSK
theorem cutM {S : Type} {ws wc wr : va_W} {wf wn : S → va_W} (M : List Bool) (h1 : M.length = ws.length) (hT : mT M ws = wc) (hF : mF M ws = wr) (hj : ∀ u, mJ M wr (wf u) = wn u) (hcF : cF M = wr.length) (hcT : ∀ u, cT M = (wf u).length) : Cut ws wc wr wf wn (mI true 0 M) (mI false 0 M) (mP M 0 wr.length) := by
  refine ⟨?_, ?_, mI_nd M 0, mI_nd M 0, fun i hi => mI_dis M 0 i hi, fun u => ?_, mP_nd M 0 _ (by omega)⟩
  · have h := mT_map (pre := ws) M ws h1 []
    rw [hT] at h; exact h
  · have h := mF_map (pre := ws) M ws h1 []
    rw [hF] at h; exact h
  · have h := mP_map M wr (wf u) hcF (hcT u) [] []
    rw [hj u] at h
    simpa using h
/-! The law's loop: what holds between two calls. -/
def JT : Nat := 60000
def SVI (J : Nat → (Nat → Int32) → (Nat → UInt64) → Prop) (t n : Nat) (yp : Nat → Nat → Int32) (yd : Nat → Nat → UInt64) (yc yr : Nat → Nat) (ps : Nat → Int32) (ds : Nat → UInt64) : Prop :=
  (∀ i, i < 4 → yp i 22 = 0 ∨ yp i 22 = 1) ∧ ∀ i, i < n → J t (yp i) (yd i) ∧ yp i 20 = nI (yc i) ∧ yc i ≤ 20 ∧ (¬ yp i 22 = 0 → yr i = rgS (yp i) (yp i 21).toInt.toNat) ∧ (∀ j, j < 127 → ps (127 * i + j) = yp i j) ∧ (∀ j, j < 52 → ds (52 * i + j) = yd i j)
def LIc (J : Nat → (Nat → Int32) → (Nat → UInt64) → Prop) (k n L cn rg : Nat) (pp : Nat → Int32) (dd : Nat → UInt64) (yp : Nat → Nat → Int32) (yd : Nat → Nat → UInt64) (yc yr : Nat → Nat) (ps : Nat → Int32) (ds : Nat → UInt64) : Prop :=
  n ≤ 4 ∧ L ≤ 100 ∧ cn ≤ 20 ∧ pp 20 = nI cn ∧ (¬ pp 22 = 0 → rg = rgS pp (pp 21).toInt.toNat) ∧ J (100 * k) pp dd ∧ SVI J (100 * k) n yp yd yc yr ps ds
/-- what the states between two calls must keep -/
def JOK (J : Nat → (Nat → Int32) → (Nat → UInt64) → Prop) : Prop :=
  (∀ t u p d, J t p d → t ≤ u → J u p d) ∧
  (∀ t p d, t ≤ JT → J t p d → (∃ cn, stOK p d cn) ∧ (p 22 = 0 ∨ p 22 = 1) ∧ szOK (d 48) (d 49) ∧ ((∀ r, r < 24 → gB (hldF (pg p 103 24) (d2 d 0 24) r) ∧ gB (hldF (pg p 103 24) (d2 d 1 24) r)) ∧ (¬ p 21 = -1 → ∀ k, k < 3 → gB (misF d (nI k))))) ∧
  (∀ t p d cn, t + 20 ≤ JT → J t p d → p 20 = nI cn → cn ≤ 20 → (p 17 = sumI (p4 p 25 20) cn ∧ p 18 = sumI (p4 p 26 20) cn) ∧ laHY p d cn ∧ laOK p d cn ∧ (∀ x, okT x cn ∧ 1 ≤ (bitsL x 32).length → ∀ z, isP (bitsL x 32).length z → 0 ≤ tmC p d (meL (bitsL x 32)) (bitsL x 32).length z) ∧
    (∀ z h, cdAdd cn z h = 0 → J (t + 1) (adP p cn z h) d) ∧ (∀ x, cdAim p d cn x = 0 → J (t + 1) (goP p d x.toInt.toNat) (goD p d x.toInt.toNat)) ∧ (∀ p2 d2 v, laS p d cn = some (p2, d2, v) → J (t + 20) p2 d2)) ∧
  (∀ t p d, t < JT → J t p d → (∀ x v, cdSet p x v = 0 → J (t + 1) (stP p x.toInt.toNat v) d) ∧ (∀ x z v, cdSb x z v = 0 → J (t + 1) (bdP p (4 * x.toInt.toNat + z.toInt.toNat) v) d) ∧ (¬ p 22 = 0 → J (t + 1) (leP p (rgS p (p 21).toInt.toNat)) (leD p d (rgS p (p 21).toInt.toNat))) ∧ (∀ k, k < 24 → J (t + 1) (fgP p k) (fgD d k)) ∧ (∀ kd f1 f2 f3 p2 d2, okO kd f1 f2 f3 → doO p d kd f1 f2 f3 = some (p2, d2) → J (t + 1) p2 d2)) ∧
  J 0 pI zD ∧ (∀ t p p2 d d2, J t p d → (∀ j, j < 127 → p j = p2 j) → (∀ j, j < 52 → d j = d2 j) → J t p2 d2)
theorem lgc (x : Int64) : lg_cmp x x = 0 := by unfold lg_cmp; simp
section LAWI
variable {J : Nat → (Nat → Int32) → (Nat → UInt64) → Prop} {k n L cn rg c2 r2 : Nat} {pp p2 : Nat → Int32} {dd d2 : Nat → UInt64} {yp : Nat → Nat → Int32} {yd : Nat → Nat → UInt64} {yc yr : Nat → Nat} {ps : Nat → Int32} {ds : Nat → UInt64}
theorem SVI_up {t u : Nat} (JH : JOK J) (h : SVI J t n yp yd yc yr ps ds) (htu : t ≤ u) : SVI J u n yp yd yc yr ps ds := ⟨h.1, fun i hi => by
  obtain ⟨a, z⟩ := h.2 i hi
  exact ⟨JH.1 t u _ _ a htu, z⟩⟩
theorem LI_keep (JH : JOK J) (h : LIc J k n L cn rg pp dd yp yd yc yr ps ds) : LIc J (k + 1) n L cn rg pp dd yp yd yc yr ps ds := by
  obtain ⟨h1, h2, h3, h4, h5, h6, h7⟩ := h
  exact ⟨h1, h2, h3, h4, h5, JH.1 _ _ _ _ h6 (by omega), SVI_up JH h7 (by omega)⟩
theorem LI_L {L2 : Nat} (h : LIc J k n L cn rg pp dd yp yd yc yr ps ds) (h2 : L2 ≤ 100) : LIc J k n L2 cn rg pp dd yp yd yc yr ps ds := by
  obtain ⟨h1, _, h3⟩ := h
  exact ⟨h1, h2, h3⟩
theorem eN_le (h : n ≤ 4) : eN n + 1 ≤ 4 := by unfold eN; split <;> omega
theorem svP_at {α : Type} {f : Nat → α} {x : α} : svP n f x (eN n) = x := by unfold svP va_up; exact if_pos rfl
theorem svP_ne {α : Type} {f : Nat → α} {x : α} {i : Nat} (hn : n ≤ 4) (h : i < eN n) : svP n f x i = f (if n = 4 then i + 1 else i) := by
  unfold svP va_up svQ rtQ
  rw [if_neg (by omega)]
  by_cases c : n = 4
  · rw [if_pos c, if_pos c]; subst c; exact if_pos (show i < 3 from h)
  · rw [if_neg c, if_neg c]
theorem svQ_all {α : Type} {f : Nat → α} {x : α} {P : α → Prop} (h : ∀ i, i < 4 → P (f i)) (hx : P x) (hn : n ≤ 4) : ∀ i, i < 4 → P (svP n f x i) := fun i hi => by
  unfold svP va_up
  split
  · exact hx
  · unfold svQ
    split
    · unfold rtQ; split
      · exact h _ (by omega)
      · exact h _ (by omega)
    · exact h i hi
theorem ePs_at {pa : Nat → Int32} {j : Nat} (hj : j < 127) : ePs ps pa n (127 * eN n + j) = pa j := by
  unfold ePs cpo; rw [if_pos (by omega)]; congr 1; omega
theorem eDs_at {da : Nat → UInt64} {j : Nat} (hj : j < 52) : eDs ds da n (52 * eN n + j) = da j := by
  unfold eDs cpo; rw [if_pos (by omega)]; congr 1; omega
theorem ePs_ne {pa : Nat → Int32} {i j : Nat} (hn : n ≤ 4) (hi : i < eN n) (hj : j < 127) : ePs ps pa n (127 * i + j) = ps (127 * (if n = 4 then i + 1 else i) + j) := by
  unfold ePs cpo
  have : 127 * i + 127 ≤ 127 * eN n := by omega
  rw [if_neg (by omega)]
  by_cases c : n = 4
  · rw [if_pos c, if_pos c]; subst c
    have h3 : i < 3 := hi
    unfold shf; rw [if_pos (by omega)]; congr 1; omega
  · rw [if_neg c, if_neg c]
theorem eDs_ne {da : Nat → UInt64} {i j : Nat} (hn : n ≤ 4) (hi : i < eN n) (hj : j < 52) : eDs ds da n (52 * i + j) = ds (52 * (if n = 4 then i + 1 else i) + j) := by
  unfold eDs cpo
  have : 52 * i + 52 ≤ 52 * eN n := by omega
  rw [if_neg (by omega)]
  by_cases c : n = 4
  · rw [if_pos c, if_pos c]; subst c
    have h3 : i < 3 := hi
    unfold shf; rw [if_pos (by omega)]; congr 1; omega
  · rw [if_neg c, if_neg c]
theorem SVI_save {t : Nat} (JH : JOK J) (hn : n ≤ 4) (h : SVI J t n yp yd yc yr ps ds) (h22 : pp 22 = 0 ∨ pp 22 = 1) (hJ : J t pp dd) (hc : pp 20 = nI cn) (hcn : cn ≤ 20) (hr : ¬ pp 22 = 0 → rg = rgS pp (pp 21).toInt.toNat) : SVI J t (eN n + 1) (svP n yp pp) (svP n yd dd) (svP n yc cn) (svP n yr rg) (ePs ps pp n) (eDs ds dd n) := by
  refine ⟨svQ_all (P := fun p : Nat → Int32 => p 22 = 0 ∨ p 22 = 1) h.1 h22 hn, fun i hi => ?_⟩
  by_cases e : i = eN n
  · subst e
    rw [svP_at, svP_at, svP_at, svP_at]
    exact ⟨hJ, hc, hcn, hr, fun j hj => ePs_at hj, fun j hj => eDs_at hj⟩
  · have hlt : i < eN n := by omega
    rw [svP_ne hn hlt, svP_ne hn hlt, svP_ne hn hlt, svP_ne hn hlt]
    have hq : (if n = 4 then i + 1 else i) < n := by
      unfold eN at hlt
      split at hlt <;> rename_i c <;> (first | rw [if_pos c] | rw [if_neg c]) <;> omega
    obtain ⟨a1, a2, a3, a4, a5, a6⟩ := h.2 _ hq
    exact ⟨a1, a2, a3, a4, fun j hj => (ePs_ne hn hlt hj).trans (a5 j hj), fun j hj => (eDs_ne hn hlt hj).trans (a6 j hj)⟩
theorem LI_save (JH : JOK J) (hk : k < 512) (h : LIc J k n L cn rg pp dd yp yd yc yr ps ds) (hJ : J (100 * k + 100) p2 d2) (hc : p2 20 = nI c2) (hcn : c2 ≤ 20) (hr : ¬ p2 22 = 0 → r2 = rgS p2 (p2 21).toInt.toNat) : LIc J (k + 1) (eN n + 1) L c2 r2 p2 d2 (svP n yp pp) (svP n yd dd) (svP n yc cn) (svP n yr rg) (ePs ps pp n) (eDs ds dd n) := by
  obtain ⟨h1, h2, h3, h4, h5, h6, h7⟩ := h
  exact ⟨eN_le h1, h2, hcn, hc, hr, hJ, SVI_up JH (SVI_save JH h1 h7 ((JH.2.1 _ _ _ (by unfold JT; omega) h6).2.1) h6 h4 h3 h5) (by omega)⟩
theorem LI_undo (JH : JOK J) (h : LIc J k n L cn rg pp dd yp yd yc yr ps ds) (hn : n ≠ 0) : LIc J (k + 1) (n - 1) L (yc (n - 1)) (yr (n - 1)) (yp (n - 1)) (yd (n - 1)) yp yd yc yr ps ds := by
  obtain ⟨h1, h2, h3, h4, h5, h6, h7⟩ := h
  obtain ⟨a1, a2, a3, a4, a5, a6⟩ := h7.2 (n - 1) (by omega)
  have h8 := SVI_up JH h7 (show 100 * k ≤ 100 * (k + 1) by omega)
  exact ⟨by omega, h2, a3, a2, a4, JH.1 _ _ _ _ a1 (by omega), ⟨h8.1, fun i hi => h8.2 i (by omega)⟩⟩
theorem LI_st (JH : JOK J) (hk : k ≤ 512) (h : LIc J k n L cn rg pp dd yp yd yc yr ps ds) : stOK pp dd cn := by
  obtain ⟨h1, h2, h3, h4, h5, h6, h7⟩ := h
  obtain ⟨⟨c0, z⟩, -⟩ := JH.2.1 _ _ _ (by unfold JT; omega) h6
  have e : c0 = cn := nI_inj9 (z.1.symm.trans h4) (by have := z.2.1; omega) (by omega)
  rw [e] at z; exact z
theorem st_20 {v : Int32} (hk : k < 5) : stP pp k v 20 = pp 20 := stP_o hk (by decide)
theorem st_rg {v : Int32} (hk : k < 5) {j : Nat} : rgS (stP pp k v) j = rgS pp j := by
  have e1 : azS (stP pp k v) j = azS pp j := by unfold azS stP upd; exact if_neg (by omega)
  have e2 : alS (stP pp k v) j = alS pp j := by unfold alS stP upd; exact if_neg (by omega)
  unfold rgS; rw [e1, e2]
theorem fg_rg (hk : k < 24) {j : Nat} (hj : j < 20) : rgS (fgP pp k) j = rgS pp j := by
  have e1 : azS (fgP pp k) j = azS pp j := by unfold azS fgP upd; exact if_neg (by omega)
  have e2 : alS (fgP pp k) j = alS pp j := by unfold alS fgP upd; exact if_neg (by omega)
  unfold rgS; rw [e1, e2]
theorem cdSet_k {x v : Int32} (h : cdSet pp x v = 0) : x.toInt.toNat < 5 := by
  by_cases c : vaS x v
  · obtain ⟨k, hk, e⟩ := cdW_nat (n := 4) (by decide) c.1
    rw [e, nI_tn (by omega)]; omega
  · rw [cdSet_1 c] at h; exact absurd h (by decide)
theorem cdSb_k {x z v : Int32} (h : cdSb x z v = 0) : 4 * x.toInt.toNat + z.toInt.toNat < 8 := by
  by_cases c : vaB x z v
  · obtain ⟨i, hi, e⟩ := cdW_nat (n := 1) (by decide) c.1
    obtain ⟨j, hj, e2⟩ := cdW_nat (n := 3) (by decide) c.2.1
    rw [e, e2, nI_tn (by omega), nI_tn (by omega)]; omega
  · rw [cdSb_1 c] at h; exact absurd h (by decide)
theorem cdW_k {hi x c : Int32} {m : Nat} (hm : hi = nI m) (hm2 : m < 1000) (hc : ¬ c = 0) (h : cdW hi x c = 0) : x.toInt.toNat ≤ m := by
  subst hm
  by_cases q : ¬ x < 0 ∧ ¬ nI m < x
  · obtain ⟨i, hi, e⟩ := cdW_nat (n := m) (by omega) q
    rw [e, nI_tn (by omega)]; exact hi
  · rw [cdW_1 q] at h; exact absurd h hc
theorem cdAim_k {x : Int32} (hcn : cn ≤ 20) (h : cdAim pp dd cn x = 0) : x.toInt.toNat < cn := by
  by_cases c : isS cn x
  · obtain ⟨i, hi, e⟩ := isS_nat c hcn
    rw [e, nI_tn (by omega)]; exact hi
  · rw [cdAim_1 c] at h; exact absurd h (by decide)
theorem cdAdd_k {z h : Int32} (hc : cdAdd cn z h = 0) : cn < 20 := by
  by_cases c : vaA z h
  · by_cases q : 20 ≤ cn
    · rw [cdAdd_2 c q] at hc; exact absurd hc (by decide)
    · omega
  · rw [cdAdd_1 c] at hc; exact absurd hc (by decide)
theorem cdApp_L {x : Int32} (h : cdApp L x = 0) : L < 100 := by
  by_cases c : ¬ x < 0 ∧ ¬ 127 < x
  · by_cases q : 100 ≤ L
    · rw [cdApp_2 c q] at h; exact absurd h (by decide)
    · omega
  · rw [cdApp_1 c] at h; exact absurd h (by decide)
theorem laS_20 (hc : pp 20 = nI cn) (hcn : cn ≤ 20) : ∀ n, n ≤ cn → ∀ {x : Nat → Int32} {y : Nat → UInt64} {v : Int32}, laS pp dd n = some (x, y, v) → x 20 = nI cn
  | 0, _, x, y, v, h => by cases h; exact hc
  | n + 1, hn, x, y, v, h => by
    unfold laS at h
    cases e : laS pp dd n with
    | none => rw [e] at h; cases h
    | some z =>
      obtain ⟨a, b, v1⟩ := z
      have ih := laS_20 hc hcn n (by omega) e
      rw [e] at h
      dsimp only at h
      split at h
      · cases h; exact ih
      · split at h
        · cases h; exact ih
        · split at h
          · cases h
          · cases h
            exact (leP_o (j := 20) (by decide)).trans ((goP_20 (by omega)).trans ih)
section TK
variable {TP : Prop} {y w rw rm t9 : Int32} {of9 : Nat → Int64} {m : Nat} {f : Nat → Int32} {o : Option Nat} {G : Nat → Nat → Int32}
/-- the class's code of a tour is the model's -/
theorem tour_k (hw : (¬ TP ∧ rw = 1) ∨ (TP ∧ ¬ y = -1 ∧ ¬ (¬ y < 0 ∧ ¬ w < y) ∧ rw = 2) ∨ (TP ∧ rw = 0 ∧ ∃ b, o = some b ∧ ((y = -1 ∧ of9 0 = (f b).toInt64) ∨ (∃ k, k < m ∧ y = nI k ∧ of9 0 = (G b k).toInt64)))) (hm : (¬ TP ∧ t9 = 1) ∨ (TP ∧ ¬ y = -1 ∧ ¬ (¬ y < 0 ∧ ¬ w < y) ∧ t9 = 2) ∨ (TP ∧ t9 = 0 ∧ ∃ b, o = some b ∧ ((y = -1 ∧ rm = f b) ∨ (∃ k, k < m ∧ y = nI k ∧ rm = G b k)))) (hb : w = nI (m - 1)) (hm5 : m ≤ 100) : t9 = rw := by
  have key : ∀ b : Nat, ∀ P : Nat → Prop, (y = -1 ∧ True) ∨ (∃ k, k < m ∧ y = nI k ∧ P k) → ¬ y = -1 → ¬ (¬ y < 0 ∧ ¬ w < y) → False := by
    intro b P h h1 h2
    rcases h with h | ⟨k, hk, ey, -⟩
    · exact h1 h.1
    · refine h2 ⟨by rw [ey]; exact nI_pos (by omega), ?_⟩
      rw [ey, hb]
      exact fun z => by have := nI_lt_of z (by omega) (by omega); omega
  rcases hw with ⟨a, b⟩ | ⟨a, b1, b2, b3⟩ | ⟨a, b, bb, _, bo⟩ <;> rcases hm with ⟨c, d⟩ | ⟨c, d1, d2, d3⟩ | ⟨c, d, dd, _, d4⟩
  · rw [b, d]
  · exact absurd c a
  · exact absurd c a
  · exact absurd a c
  · rw [b3, d3]
  · exact (key dd (fun k => True) (d4.elim (fun z => Or.inl ⟨z.1, trivial⟩) (fun ⟨k, z1, z2, _⟩ => Or.inr ⟨k, z1, z2, trivial⟩)) b1 b2).elim
  · exact absurd a c
  · exact (key bb (fun k => True) (bo.elim (fun z => Or.inl ⟨z.1, trivial⟩) (fun ⟨k, z1, z2, _⟩ => Or.inr ⟨k, z1, z2, trivial⟩)) d1 d2).elim
  · rw [b, d]
theorem tour_v (hw : (¬ TP ∧ rw = 1) ∨ (TP ∧ ¬ y = -1 ∧ ¬ (¬ y < 0 ∧ ¬ w < y) ∧ rw = 2) ∨ (TP ∧ rw = 0 ∧ ∃ b, o = some b ∧ ((y = -1 ∧ of9 0 = (f b).toInt64) ∨ (∃ k, k < m ∧ y = nI k ∧ of9 0 = (G b k).toInt64)))) (hm : (¬ TP ∧ t9 = 1) ∨ (TP ∧ ¬ y = -1 ∧ ¬ (¬ y < 0 ∧ ¬ w < y) ∧ t9 = 2) ∨ (TP ∧ t9 = 0 ∧ ∃ b, o = some b ∧ ((y = -1 ∧ rm = f b) ∨ (∃ k, k < m ∧ y = nI k ∧ rm = G b k)))) (h0 : rw = 0) (hb : w = nI (m - 1)) (hm5 : m ≤ 100) : of9 0 = rm.toInt64 := by
  have ht := tour_k hw hm hb hm5
  rw [h0] at ht
  rcases hw with ⟨a, b⟩ | ⟨a, b1, b2, b3⟩ | ⟨a, b, bb, eb, bo⟩
  · rw [h0] at b; exact absurd b (by decide)
  · rw [h0] at b3; exact absurd b3 (by decide)
  · rcases hm with ⟨c, d⟩ | ⟨c, d1, d2, d3⟩ | ⟨c, d, d5, ed, d4⟩
    · rw [ht] at d; exact absurd d (by decide)
    · rw [ht] at d3; exact absurd d3 (by decide)
    · obtain rfl : bb = d5 := Option.some.inj (eb.symm.trans ed)
      rcases bo with ⟨z1, z2⟩ | ⟨k, k1, k2, k3⟩ <;> rcases d4 with ⟨y1, y2⟩ | ⟨j, j1, j2, j3⟩
      · rw [z2, y2]
      · exact absurd (z1.symm.trans j2) (fun e => nI_m1 (j := j) (by omega) e.symm)
      · exact absurd (y1.symm.trans k2) (fun e => nI_m1 (j := k) (by omega) e.symm)
      · obtain rfl : k = j := nI_inj9 (k2.symm.trans j2) (by omega) (by omega)
        rw [k3, j3]
end TK
end LAWI
theorem exF_J {J : Nat → (Nat → Int32) → (Nat → UInt64) → Prop} (JH : JOK J) {tx : Nat → Int32} {L : Nat} : ∀ (n i t : Nat) (pp : Nat → Int32) (dd : Nat → UInt64) (v : Int32) (p : Nat → Int32) (d : Nat → UInt64) (r : Int32), prsN tx L n i = none → exF tx L n i pp dd v = (p, d, r) → J t pp dd → t + n ≤ JT → J (t + n) p d
  | 0, i, t, pp, dd, v, p, d, r, h, e, hJ, ht => by cases e; exact hJ
  | n + 1, i, t, pp, dd, v, p, d, r, h, e, hJ, ht => by
    unfold prsN at h
    unfold exF at e
    by_cases hi : i < L
    · rw [if_pos hi] at h e
      cases e9 : (roF tx L i).2.1 with
      | some q => rw [e9] at h; cases h
      | none =>
        rw [e9] at h
        dsimp only at h
        cases e8 : doO pp dd (tx i) (roF tx L i).2.2.1 (roF tx L i).2.2.2.1 (roF tx L i).2.2.2.2 with
        | none => rw [e8] at e; cases e; exact JH.1 _ _ _ _ hJ (by omega)
        | some z =>
          obtain ⟨x, y⟩ := z
          rw [e8] at e
          dsimp only at e
          have h1 := (JH.2.2.2.1 t pp dd (by omega) hJ).2.2.2.2 _ _ _ _ _ _ (roF_ok e9) e8
          have h2 := exF_J JH n (roF tx L i).1 (t + 1) x y (v + 1) p d r h e h1 (by omega)
          rw [show t + 1 + n = t + (n + 1) by omega] at h2
          exact h2
    · rw [if_neg hi] at e
      cases e
      exact JH.1 _ _ _ _ hJ (by omega)
theorem car_both {J : Nat → (Nat → Int32) → (Nat → UInt64) → Prop} {k n L cn rg c9 r9 n8 n9 : Nat} {pp p9 q9 tx : Nat → Int32} {dd d9 x9 : Nat → UInt64} {yp yp9 : Nat → Nat → Int32} {yd yd9 : Nat → Nat → UInt64} {yc yr yc9 yr9 : Nat → Nat} {ps s9 : Nat → Int32} {ds z9 : Nat → UInt64} {rc rm : Int32} (JH : JOK J) (hk : k < 512) (hI : LIc J k n L cn rg pp dd yp yd yc yr ps ds)
    (hC : (∃ z, prsN tx L 100 0 = some z ∧ rc = -10 - nI z ∧ p9 = pp ∧ d9 = dd ∧ c9 = cn ∧ r9 = rg ∧ yp9 = yp ∧ yd9 = yd ∧ yc9 = yc ∧ yr9 = yr ∧ n8 = n) ∨ (prsN tx L 100 0 = none ∧ exF tx L 100 0 pp dd 0 = (p9, d9, rc) ∧ p9 20 = nI c9 ∧ c9 ≤ 20 ∧ (¬ p9 22 = 0 → r9 = rgS p9 (p9 21).toInt.toNat) ∧ yp9 = svP n yp pp ∧ yd9 = svP n yd dd ∧ yc9 = svP n yc cn ∧ yr9 = svP n yr rg ∧ n8 = eN n + 1))
    (hM : (∃ z, prsN tx L 100 0 = some z ∧ z ≤ 100 ∧ rm = -10 - nI z ∧ q9 = pp ∧ x9 = dd ∧ s9 = ps ∧ z9 = ds ∧ n9 = n) ∨ (prsN tx L 100 0 = none ∧ exF tx L 100 0 pp dd 0 = (q9, x9, rm) ∧ s9 = ePs ps pp n ∧ z9 = eDs ds dd n ∧ n9 = eN n + 1)) : q9 = p9 ∧ x9 = d9 ∧ rc = rm ∧ n9 = n8 ∧ LIc J (k + 1) n8 L c9 r9 p9 d9 yp9 yd9 yc9 yr9 s9 z9 := by
  rcases hC with ⟨z, h1, h2, rfl, rfl, rfl, rfl, rfl, rfl, rfl, rfl, rfl⟩ | ⟨h1, h2, h3, h4, h5, rfl, rfl, rfl, rfl, rfl⟩ <;> rcases hM with ⟨z2, g1, g2, g3, rfl, rfl, rfl, rfl, rfl⟩ | ⟨g1, g2, rfl, rfl, rfl⟩
  · obtain rfl : z = z2 := Option.some.inj (h1.symm.trans g1)
    exact ⟨rfl, rfl, h2.trans g3.symm, rfl, LI_keep JH hI⟩
  · rw [h1] at g1; cases g1
  · rw [h1] at g1; cases g1
  · have e := h2.symm.trans g2
    obtain ⟨e1, e2, e3⟩ : p9 = q9 ∧ d9 = x9 ∧ rc = rm := by cases e; exact ⟨rfl, rfl, rfl⟩
    have hJ := exF_J JH 100 0 (100 * k) pp dd 0 p9 d9 rc h1 h2 hI.2.2.2.2.2.1 (by unfold JT; omega)
    exact ⟨e1.symm, e2.symm, e3, rfl, LI_save JH hk hI hJ h3 h4 h5⟩

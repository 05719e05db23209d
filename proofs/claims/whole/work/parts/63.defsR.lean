/-! Cuts by a mask: in one pass. -/
def mT {α : Type} : List Bool → List α → List α
  | true :: M, a :: w => a :: mT M w
  | false :: M, _ :: w => mT M w
  | _, _ => []
def mF {α : Type} : List Bool → List α → List α
  | true :: M, _ :: w => mF M w
  | false :: M, a :: w => a :: mF M w
  | [], w => w
  | _, [] => []
/-- the places of a mask: where it says v -/
def mI (v : Bool) : Nat → List Bool → List Nat
  | _, [] => []
  | k, a :: M => if a = v then k :: mI v (k + 1) M else mI v (k + 1) M
/-- back: the rest's cells from r on, the others from c on -/
def mP : List Bool → Nat → Nat → List Nat
  | [], _, _ => []
  | true :: M, r, c => c :: mP M r (c + 1)
  | false :: M, r, c => r :: mP M (r + 1) c
/-- the two lists laid together again -/
def mJ {α : Type} : List Bool → List α → List α → List α
  | true :: M, wr, a :: w => a :: mJ M wr w
  | false :: M, a :: wr, w => a :: mJ M wr w
  | _, _, _ => []
def cT : List Bool → Nat
  | [] => 0
  | true :: M => cT M + 1
  | false :: M => cT M
def cF : List Bool → Nat
  | [] => 0
  | true :: M => cF M
  | false :: M => cF M + 1
section MSK
variable {α : Type}
theorem mI_ge {v : Bool} : ∀ (M : List Bool) (k i : Nat), i ∈ mI v k M → k ≤ i
  | [], k, i, h => by cases h
  | a :: M, k, i, h => by
    unfold mI at h
    split at h
    · rcases List.mem_cons.mp h with e | h
      · omega
      · have := mI_ge M (k + 1) i h; omega
    · have := mI_ge M (k + 1) i h; omega
theorem mI_nd {v : Bool} : ∀ (M : List Bool) (k : Nat), va_nd (mI v k M) = true
  | [], k => rfl
  | a :: M, k => by
    unfold mI
    split
    · show (decide (k ∉ mI v (k + 1) M) && va_nd (mI v (k + 1) M)) = true
      rw [mI_nd M (k + 1), Bool.and_true]
      exact decide_eq_true fun h => by have := mI_ge M (k + 1) k h; omega
    · exact mI_nd M (k + 1)
theorem mI_dis : ∀ (M : List Bool) (k i : Nat), i ∈ mI false k M → i ∉ mI true k M
  | [], k, i, h => by cases h
  | true :: M, k, i, h => by
    have h' : i ∈ mI false (k + 1) M := by unfold mI at h; rw [if_neg (by decide)] at h; exact h
    have h1 := mI_ge M (k + 1) i h'
    unfold mI
    rw [if_pos rfl]
    intro z
    rcases List.mem_cons.mp z with e | z
    · omega
    · exact mI_dis M (k + 1) i h' z
  | false :: M, k, i, h => by
    unfold mI
    rw [if_neg (by decide)]
    unfold mI at h
    rw [if_pos rfl] at h
    rcases List.mem_cons.mp h with e | h
    · intro z; have := mI_ge M (k + 1) i z; omega
    · exact mI_dis M (k + 1) i h
theorem mT_map {pre : List α} : ∀ (M : List Bool) (w : List α), M.length = w.length → ∀ p : List α, (mI true p.length M).map (fun i => (p ++ w)[i]?) = (mT M w).map some
  | [], w, h, p => by cases w with
    | nil => rfl
    | cons a t => cases h
  | true :: M, [], h, p => by cases h
  | false :: M, [], h, p => by cases h
  | true :: M, a :: w, h, p => by
    unfold mI mT
    rw [if_pos rfl, List.map_cons, List.map_cons]
    have e : p ++ a :: w = (p ++ [a]) ++ w := by simp
    have ih := mT_map (pre := pre) M w (by simpa using h) (p ++ [a])
    rw [List.length_append] at ih
    rw [e]
    congr 1
    · rw [List.append_assoc]; simp
  | false :: M, a :: w, h, p => by
    unfold mI mT
    rw [if_neg (by decide)]
    have e : p ++ a :: w = (p ++ [a]) ++ w := by simp
    have ih := mT_map (pre := pre) M w (by simpa using h) (p ++ [a])
    rw [List.length_append] at ih
    rw [e]; exact ih
theorem mF_map {pre : List α} : ∀ (M : List Bool) (w : List α), M.length = w.length → ∀ p : List α, (mI false p.length M).map (fun i => (p ++ w)[i]?) = (mF M w).map some
  | [], w, h, p => by cases w with
    | nil => rfl
    | cons a t => cases h
  | true :: M, [], h, p => by cases h
  | false :: M, [], h, p => by cases h
  | false :: M, a :: w, h, p => by
    unfold mI mF
    rw [if_pos rfl, List.map_cons, List.map_cons]
    have e : p ++ a :: w = (p ++ [a]) ++ w := by simp
    have ih := mF_map (pre := pre) M w (by simpa using h) (p ++ [a])
    rw [List.length_append] at ih
    rw [e]
    congr 1
    · rw [List.append_assoc]; simp
  | true :: M, a :: w, h, p => by
    unfold mI mF
    rw [if_neg (by decide)]
    have e : p ++ a :: w = (p ++ [a]) ++ w := by simp
    have ih := mF_map (pre := pre) M w (by simpa using h) (p ++ [a])
    rw [List.length_append] at ih
    rw [e]; exact ih
theorem mP_map : ∀ (M : List Bool) (wr w : List α), cF M = wr.length → cT M = w.length → ∀ (p q : List α), (mP M p.length (p.length + wr.length + q.length)).map (fun i => (p ++ wr ++ q ++ w)[i]?) = (mJ M wr w).map some
  | [], wr, w, h1, h2, p, q => by
    unfold mJ mP; rfl
  | true :: M, wr, [], h1, h2, p, q => by cases h2
  | true :: M, wr, a :: w, h1, h2, p, q => by
    unfold mP mJ
    rw [List.map_cons, List.map_cons]
    have ih := mP_map M wr w h1 (by simpa [cT] using h2) p (q ++ [a])
    rw [List.length_append] at ih
    have e : p ++ wr ++ (q ++ [a]) ++ w = p ++ wr ++ q ++ a :: w := by simp
    rw [e] at ih
    have e2 : (p ++ wr ++ q ++ a :: w)[p.length + wr.length + q.length]? = some a := by
      rw [show p.length + wr.length + q.length = (p ++ wr ++ q).length by simp [Nat.add_assoc], List.getElem?_append_right (Nat.le_refl _), Nat.sub_self]; rfl
    rw [e2]
    congr 1
  | false :: M, [], w, h1, h2, p, q => by cases h1
  | false :: M, a :: wr, w, h1, h2, p, q => by
    unfold mP mJ
    rw [List.map_cons, List.map_cons]
    have ih := mP_map M wr w (by simpa [cF] using h1) h2 (p ++ [a]) q
    have e : p ++ [a] ++ wr ++ q ++ w = p ++ a :: wr ++ q ++ w := by simp
    rw [e, List.length_append] at ih
    have e2 : (p ++ a :: wr ++ q ++ w)[p.length]? = some a := by simp
    rw [e2]
    congr 1
    rw [show p.length + (a :: wr).length + q.length = p.length + [a].length + wr.length + q.length by simp; omega]
    exact ih
theorem mP_ge : ∀ (M : List Bool) (r c i : Nat), i ∈ mP M r c → r + cF M ≤ c → (r ≤ i ∧ i < r + cF M) ∨ (c ≤ i ∧ i < c + cT M)
  | [], r, c, i, h, hc => by cases h
  | true :: M, r, c, i, h, hc => by
    unfold mP at h
    have h0 : cF (true :: M) = cF M := rfl
    have h1 : cT (true :: M) = cT M + 1 := rfl
    rcases List.mem_cons.mp h with e | h
    · omega
    · have := mP_ge M r (c + 1) i h (by omega); omega
  | false :: M, r, c, i, h, hc => by
    unfold mP at h
    have h0 : cF (false :: M) = cF M + 1 := rfl
    have h1 : cT (false :: M) = cT M := rfl
    rcases List.mem_cons.mp h with e | h
    · omega
    · have := mP_ge M (r + 1) c i h (by omega); omega
theorem mP_nd : ∀ (M : List Bool) (r c : Nat), r + cF M ≤ c → va_nd (mP M r c) = true
  | [], r, c, hc => rfl
  | true :: M, r, c, hc => by
    have h0 : cF (true :: M) = cF M := rfl
    unfold mP
    show (decide (c ∉ mP M r (c + 1)) && va_nd (mP M r (c + 1))) = true
    rw [mP_nd M r (c + 1) (by omega), Bool.and_true]
    exact decide_eq_true fun h => by have := mP_ge M r (c + 1) c h (by omega); omega
  | false :: M, r, c, hc => by
    have h0 : cF (false :: M) = cF M + 1 := rfl
    unfold mP
    show (decide (r ∉ mP M (r + 1) c) && va_nd (mP M (r + 1) c)) = true
    rw [mP_nd M (r + 1) c (by omega), Bool.and_true]
    exact decide_eq_true fun h => by have := mP_ge M (r + 1) c r h (by omega); omega
end MSK
theorem cutM {S : Type} {ws wc wr : va_W} {wf wn : S → va_W} (M : List Bool) (h1 : M.length = ws.length) (hT : mT M ws = wc) (hF : mF M ws = wr) (hj : ∀ u, mJ M wr (wf u) = wn u) (hcF : cF M = wr.length) (hcT : ∀ u, cT M = (wf u).length) : Cut ws wc wr wf wn (mI true 0 M) (mI false 0 M) (mP M 0 wr.length) := by
  refine ⟨?_, ?_, mI_nd M 0, mI_nd M 0, fun i hi => mI_dis M 0 i hi, fun u => ?_, mP_nd M 0 _ (by omega)⟩
  · have h := mT_map (pre := ws) M ws h1 []
    rw [hT] at h; exact h
  · have h := mF_map (pre := ws) M ws h1 []
    rw [hF] at h; exact h
  · have h := mP_map M wr (wf u) hcF (hcT u) [] []
    rw [hj u] at h
    simpa using h
/-! The law's loop: what holds between two calls. -/
def JT : Nat := 60000
def SVI (J : Nat → (Nat → Int32) → (Nat → UInt64) → Prop) (t n : Nat) (yp : Nat → Nat → Int32) (yd : Nat → Nat → UInt64) (yc yr : Nat → Nat) (ps : Nat → Int32) (ds : Nat → UInt64) : Prop :=
  (∀ i, i < 4 → yp i 22 = 0 ∨ yp i 22 = 1) ∧ ∀ i, i < n → J t (yp i) (yd i) ∧ yp i 20 = nI (yc i) ∧ yc i ≤ 20 ∧ (¬ yp i 22 = 0 → yr i = rgS (yp i) (yp i 21).toInt.toNat) ∧ (∀ j, j < 127 → ps (127 * i + j) = yp i j) ∧ (∀ j, j < 52 → ds (52 * i + j) = yd i j)
def LIc (J : Nat → (Nat → Int32) → (Nat → UInt64) → Prop) (k n L cn rg : Nat) (pp : Nat → Int32) (dd : Nat → UInt64) (yp : Nat → Nat → Int32) (yd : Nat → Nat → UInt64) (yc yr : Nat → Nat) (ps : Nat → Int32) (ds : Nat → UInt64) : Prop :=
  n ≤ 4 ∧ L ≤ 100 ∧ cn ≤ 20 ∧ pp 20 = nI cn ∧ (¬ pp 22 = 0 → rg = rgS pp (pp 21).toInt.toNat) ∧ J (100 * k) pp dd ∧ SVI J (100 * k) n yp yd yc yr ps ds
/-- what the states between two calls must keep -/
def JOK (J : Nat → (Nat → Int32) → (Nat → UInt64) → Prop) : Prop :=
  (∀ t u p d, J t p d → t ≤ u → J u p d) ∧
  (∀ t p d, t ≤ JT → J t p d → (∃ cn, stOK p d cn) ∧ (p 22 = 0 ∨ p 22 = 1) ∧ szOK (d 48) (d 49) ∧ ((∀ r, r < 24 → gB (hldF (pg p 103 24) (d2 d 0 24) r) ∧ gB (hldF (pg p 103 24) (d2 d 1 24) r)) ∧ (¬ p 21 = -1 → ∀ k, k < 3 → gB (misF d (nI k))))) ∧
  (∀ t p d cn, t + 20 ≤ JT → J t p d → p 20 = nI cn → cn ≤ 20 → (p 17 = sumI (p4 p 25 20) cn ∧ p 18 = sumI (p4 p 26 20) cn) ∧ laHY p d cn ∧ laOK p d cn ∧ (∀ x, okT x cn ∧ 1 ≤ (bitsL x 32).length → ∀ z, isP (bitsL x 32).length z → 0 ≤ tmC p d (meL (bitsL x 32)) (bitsL x 32).length z) ∧
    (∀ z h, cdAdd cn z h = 0 → J (t + 1) (adP p cn z h) d) ∧ (∀ x, cdAim p d cn x = 0 → J (t + 1) (goP p d x.toInt.toNat) (goD p d x.toInt.toNat)) ∧ (∀ p2 d2 v, laS p d cn = some (p2, d2, v) → J (t + 20) p2 d2)) ∧
  (∀ t p d, t < JT → J t p d → (∀ x v, cdSet p x v = 0 → J (t + 1) (stP p x.toInt.toNat v) d) ∧ (∀ x z v, cdSb x z v = 0 → J (t + 1) (bdP p (4 * x.toInt.toNat + z.toInt.toNat) v) d) ∧ (¬ p 22 = 0 → J (t + 1) (leP p (rgS p (p 21).toInt.toNat)) (leD p d (rgS p (p 21).toInt.toNat))) ∧ (∀ k, k < 24 → J (t + 1) (fgP p k) (fgD d k)) ∧ (∀ kd f1 f2 f3 p2 d2, okO kd f1 f2 f3 → doO p d kd f1 f2 f3 = some (p2, d2) → J (t + 1) p2 d2)) ∧
  J 0 pI zD ∧ (∀ t p p2 d d2, J t p d → (∀ j, j < 127 → p j = p2 j) → (∀ j, j < 52 → d j = d2 j) → J t p2 d2)
theorem lgc (x : Int64) : lg_cmp x x = 0 := by unfold lg_cmp; simp
section LAWI
variable {J : Nat → (Nat → Int32) → (Nat → UInt64) → Prop} {k n L cn rg c2 r2 : Nat} {pp p2 : Nat → Int32} {dd d2 : Nat → UInt64} {yp : Nat → Nat → Int32} {yd : Nat → Nat → UInt64} {yc yr : Nat → Nat} {ps : Nat → Int32} {ds : Nat → UInt64}
theorem SVI_up {t u : Nat} (JH : JOK J) (h : SVI J t n yp yd yc yr ps ds) (htu : t ≤ u) : SVI J u n yp yd yc yr ps ds := ⟨h.1, fun i hi => by
  obtain ⟨a, z⟩ := h.2 i hi
  exact ⟨JH.1 t u _ _ a htu, z⟩⟩
theorem LI_keep (JH : JOK J) (h : LIc J k n L cn rg pp dd yp yd yc yr ps ds) : LIc J (k + 1) n L cn rg pp dd yp yd yc yr ps ds := by
  obtain ⟨h1, h2, h3, h4, h5, h6, h7⟩ := h
  exact ⟨h1, h2, h3, h4, h5, JH.1 _ _ _ _ h6 (by omega), SVI_up JH h7 (by omega)⟩
theorem LI_L {L2 : Nat} (h : LIc J k n L cn rg pp dd yp yd yc yr ps ds) (h2 : L2 ≤ 100) : LIc J k n L2 cn rg pp dd yp yd yc yr ps ds := by
  obtain ⟨h1, _, h3⟩ := h
  exact ⟨h1, h2, h3⟩
theorem eN_le (h : n ≤ 4) : eN n + 1 ≤ 4 := by unfold eN; split <;> omega
theorem svP_at {α : Type} {f : Nat → α} {x : α} : svP n f x (eN n) = x := by unfold svP va_up; exact if_pos rfl
theorem svP_ne {α : Type} {f : Nat → α} {x : α} {i : Nat} (hn : n ≤ 4) (h : i < eN n) : svP n f x i = f (if n = 4 then i + 1 else i) := by
  unfold svP va_up svQ rtQ
  rw [if_neg (by omega)]
  by_cases c : n = 4
  · rw [if_pos c, if_pos c]; subst c; exact if_pos (show i < 3 from h)
  · rw [if_neg c, if_neg c]
theorem svQ_all {α : Type} {f : Nat → α} {x : α} {P : α → Prop} (h : ∀ i, i < 4 → P (f i)) (hx : P x) (hn : n ≤ 4) : ∀ i, i < 4 → P (svP n f x i) := fun i hi => by
  unfold svP va_up
  split
  · exact hx
  · unfold svQ
    split
    · unfold rtQ; split
      · exact h _ (by omega)
      · exact h _ (by omega)
    · exact h i hi
theorem ePs_at {pa : Nat → Int32} {j : Nat} (hj : j < 127) : ePs ps pa n (127 * eN n + j) = pa j := by
  unfold ePs cpo; rw [if_pos (by omega)]; congr 1; omega
theorem eDs_at {da : Nat → UInt64} {j : Nat} (hj : j < 52) : eDs ds da n (52 * eN n + j) = da j := by
  unfold eDs cpo; rw [if_pos (by omega)]; congr 1; omega
theorem ePs_ne {pa : Nat → Int32} {i j : Nat} (hn : n ≤ 4) (hi : i < eN n) (hj : j < 127) : ePs ps pa n (127 * i + j) = ps (127 * (if n = 4 then i + 1 else i) + j) := by
  unfold ePs cpo
  have : 127 * i + 127 ≤ 127 * eN n := by omega
  rw [if_neg (by omega)]
  by_cases c : n = 4
  · rw [if_pos c, if_pos c]; subst c
    have h3 : i < 3 := hi
    unfold shf; rw [if_pos (by omega)]; congr 1; omega
  · rw [if_neg c, if_neg c]
theorem eDs_ne {da : Nat → UInt64} {i j : Nat} (hn : n ≤ 4) (hi : i < eN n) (hj : j < 52) : eDs ds da n (52 * i + j) = ds (52 * (if n = 4 then i + 1 else i) + j) := by
  unfold eDs cpo
  have : 52 * i + 52 ≤ 52 * eN n := by omega
  rw [if_neg (by omega)]
  by_cases c : n = 4
  · rw [if_pos c, if_pos c]; subst c
    have h3 : i < 3 := hi
    unfold shf; rw [if_pos (by omega)]; congr 1; omega
  · rw [if_neg c, if_neg c]
theorem SVI_save {t : Nat} (JH : JOK J) (hn : n ≤ 4) (h : SVI J t n yp yd yc yr ps ds) (h22 : pp 22 = 0 ∨ pp 22 = 1) (hJ : J t pp dd) (hc : pp 20 = nI cn) (hcn : cn ≤ 20) (hr : ¬ pp 22 = 0 → rg = rgS pp (pp 21).toInt.toNat) : SVI J t (eN n + 1) (svP n yp pp) (svP n yd dd) (svP n yc cn) (svP n yr rg) (ePs ps pp n) (eDs ds dd n) := by
  refine ⟨svQ_all (P := fun p : Nat → Int32 => p 22 = 0 ∨ p 22 = 1) h.1 h22 hn, fun i hi => ?_⟩
  by_cases e : i = eN n
  · subst e
    rw [svP_at, svP_at, svP_at, svP_at]
    exact ⟨hJ, hc, hcn, hr, fun j hj => ePs_at hj, fun j hj => eDs_at hj⟩
  · have hlt : i < eN n := by omega
    rw [svP_ne hn hlt, svP_ne hn hlt, svP_ne hn hlt, svP_ne hn hlt]
    have hq : (if n = 4 then i + 1 else i) < n := by
      unfold eN at hlt
      split at hlt <;> rename_i c <;> (first | rw [if_pos c] | rw [if_neg c]) <;> omega
    obtain ⟨a1, a2, a3, a4, a5, a6⟩ := h.2 _ hq
    exact ⟨a1, a2, a3, a4, fun j hj => (ePs_ne hn hlt hj).trans (a5 j hj), fun j hj => (eDs_ne hn hlt hj).trans (a6 j hj)⟩
theorem LI_save (JH : JOK J) (hk : k < 512) (h : LIc J k n L cn rg pp dd yp yd yc yr ps ds) (hJ : J (100 * k + 100) p2 d2) (hc : p2 20 = nI c2) (hcn : c2 ≤ 20) (hr : ¬ p2 22 = 0 → r2 = rgS p2 (p2 21).toInt.toNat) : LIc J (k + 1) (eN n + 1) L c2 r2 p2 d2 (svP n yp pp) (svP n yd dd) (svP n yc cn) (svP n yr rg) (ePs ps pp n) (eDs ds dd n) := by
  obtain ⟨h1, h2, h3, h4, h5, h6, h7⟩ := h
  exact ⟨eN_le h1, h2, hcn, hc, hr, hJ, SVI_up JH (SVI_save JH h1 h7 ((JH.2.1 _ _ _ (by unfold JT; omega) h6).2.1) h6 h4 h3 h5) (by omega)⟩
theorem LI_undo (JH : JOK J) (h : LIc J k n L cn rg pp dd yp yd yc yr ps ds) (hn : n ≠ 0) : LIc J (k + 1) (n - 1) L (yc (n - 1)) (yr (n - 1)) (yp (n - 1)) (yd (n - 1)) yp yd yc yr ps ds := by
  obtain ⟨h1, h2, h3, h4, h5, h6, h7⟩ := h
  obtain ⟨a1, a2, a3, a4, a5, a6⟩ := h7.2 (n - 1) (by omega)
  have h8 := SVI_up JH h7 (show 100 * k ≤ 100 * (k + 1) by omega)
  exact ⟨by omega, h2, a3, a2, a4, JH.1 _ _ _ _ a1 (by omega), ⟨h8.1, fun i hi => h8.2 i (by omega)⟩⟩
theorem LI_st (JH : JOK J) (hk : k ≤ 512) (h : LIc J k n L cn rg pp dd yp yd yc yr ps ds) : stOK pp dd cn := by
  obtain ⟨h1, h2, h3, h4, h5, h6, h7⟩ := h
  obtain ⟨⟨c0, z⟩, -⟩ := JH.2.1 _ _ _ (by unfold JT; omega) h6
  have e : c0 = cn := nI_inj9 (z.1.symm.trans h4) (by have := z.2.1; omega) (by omega)
  rw [e] at z; exact z
theorem st_20 {v : Int32} (hk : k < 5) : stP pp k v 20 = pp 20 := stP_o hk (by decide)
theorem st_rg {v : Int32} (hk : k < 5) {j : Nat} : rgS (stP pp k v) j = rgS pp j := by
  have e1 : azS (stP pp k v) j = azS pp j := by unfold azS stP upd; exact if_neg (by omega)
  have e2 : alS (stP pp k v) j = alS pp j := by unfold alS stP upd; exact if_neg (by omega)
  unfold rgS; rw [e1, e2]
theorem fg_rg (hk : k < 24) {j : Nat} (hj : j < 20) : rgS (fgP pp k) j = rgS pp j := by
  have e1 : azS (fgP pp k) j = azS pp j := by unfold azS fgP upd; exact if_neg (by omega)
  have e2 : alS (fgP pp k) j = alS pp j := by unfold alS fgP upd; exact if_neg (by omega)
  unfold rgS; rw [e1, e2]
theorem cdSet_k {x v : Int32} (h : cdSet pp x v = 0) : x.toInt.toNat < 5 := by
  by_cases c : vaS x v
  · obtain ⟨k, hk, e⟩ := cdW_nat (n := 4) (by decide) c.1
    rw [e, nI_tn (by omega)]; omega
  · rw [cdSet_1 c] at h; exact absurd h (by decide)
theorem cdSb_k {x z v : Int32} (h : cdSb x z v = 0) : 4 * x.toInt.toNat + z.toInt.toNat < 8 := by
  by_cases c : vaB x z v
  · obtain ⟨i, hi, e⟩ := cdW_nat (n := 1) (by decide) c.1
    obtain ⟨j, hj, e2⟩ := cdW_nat (n := 3) (by decide) c.2.1
    rw [e, e2, nI_tn (by omega), nI_tn (by omega)]; omega
  · rw [cdSb_1 c] at h; exact absurd h (by decide)
theorem cdW_k {hi x c : Int32} {m : Nat} (hm : hi = nI m) (hm2 : m < 1000) (hc : ¬ c = 0) (h : cdW hi x c = 0) : x.toInt.toNat ≤ m := by
  subst hm
  by_cases q : ¬ x < 0 ∧ ¬ nI m < x
  · obtain ⟨i, hi, e⟩ := cdW_nat (n := m) (by omega) q
    rw [e, nI_tn (by omega)]; exact hi
  · rw [cdW_1 q] at h; exact absurd h hc
theorem cdAim_k {x : Int32} (hcn : cn ≤ 20) (h : cdAim pp dd cn x = 0) : x.toInt.toNat < cn := by
  by_cases c : isS cn x
  · obtain ⟨i, hi, e⟩ := isS_nat c hcn
    rw [e, nI_tn (by omega)]; exact hi
  · rw [cdAim_1 c] at h; exact absurd h (by decide)
theorem cdAdd_k {z h : Int32} (hc : cdAdd cn z h = 0) : cn < 20 := by
  by_cases c : vaA z h
  · by_cases q : 20 ≤ cn
    · rw [cdAdd_2 c q] at hc; exact absurd hc (by decide)
    · omega
  · rw [cdAdd_1 c] at hc; exact absurd hc (by decide)
theorem cdApp_L {x : Int32} (h : cdApp L x = 0) : L < 100 := by
  by_cases c : ¬ x < 0 ∧ ¬ 127 < x
  · by_cases q : 100 ≤ L
    · rw [cdApp_2 c q] at h; exact absurd h (by decide)
    · omega
  · rw [cdApp_1 c] at h; exact absurd h (by decide)
theorem laS_20 (hc : pp 20 = nI cn) (hcn : cn ≤ 20) : ∀ n, n ≤ cn → ∀ {x : Nat → Int32} {y : Nat → UInt64} {v : Int32}, laS pp dd n = some (x, y, v) → x 20 = nI cn
  | 0, _, x, y, v, h => by cases h; exact hc
  | n + 1, hn, x, y, v, h => by
    unfold laS at h
    cases e : laS pp dd n with
    | none => rw [e] at h; cases h
    | some z =>
      obtain ⟨a, b, v1⟩ := z
      have ih := laS_20 hc hcn n (by omega) e
      rw [e] at h
      dsimp only at h
      split at h
      · cases h; exact ih
      · split at h
        · cases h; exact ih
        · split at h
          · cases h
          · cases h
            exact (leP_o (j := 20) (by decide)).trans ((goP_20 (by omega)).trans ih)
section TK
variable {TP : Prop} {y w rw rm t9 : Int32} {of9 : Nat → Int64} {m : Nat} {f : Nat → Int32} {o : Option Nat} {G : Nat → Nat → Int32}
/-- the class's code of a tour is the model's -/
theorem tour_k (hw : (¬ TP ∧ rw = 1) ∨ (TP ∧ ¬ y = -1 ∧ ¬ (¬ y < 0 ∧ ¬ w < y) ∧ rw = 2) ∨ (TP ∧ rw = 0 ∧ ∃ b, o = some b ∧ ((y = -1 ∧ of9 0 = (f b).toInt64) ∨ (∃ k, k < m ∧ y = nI k ∧ of9 0 = (G b k).toInt64)))) (hm : (¬ TP ∧ t9 = 1) ∨ (TP ∧ ¬ y = -1 ∧ ¬ (¬ y < 0 ∧ ¬ w < y) ∧ t9 = 2) ∨ (TP ∧ t9 = 0 ∧ ∃ b, o = some b ∧ ((y = -1 ∧ rm = f b) ∨ (∃ k, k < m ∧ y = nI k ∧ rm = G b k)))) (hb : w = nI (m - 1)) (hm5 : m ≤ 100) : t9 = rw := by
  have key : ∀ b : Nat, ∀ P : Nat → Prop, (y = -1 ∧ True) ∨ (∃ k, k < m ∧ y = nI k ∧ P k) → ¬ y = -1 → ¬ (¬ y < 0 ∧ ¬ w < y) → False := by
    intro b P h h1 h2
    rcases h with h | ⟨k, hk, ey, -⟩
    · exact h1 h.1
    · refine h2 ⟨by rw [ey]; exact nI_pos (by omega), ?_⟩
      rw [ey, hb]
      exact fun z => by have := nI_lt_of z (by omega) (by omega); omega
  rcases hw with ⟨a, b⟩ | ⟨a, b1, b2, b3⟩ | ⟨a, b, bb, _, bo⟩ <;> rcases hm with ⟨c, d⟩ | ⟨c, d1, d2, d3⟩ | ⟨c, d, dd, _, d4⟩
  · rw [b, d]
  · exact absurd c a
  · exact absurd c a
  · exact absurd a c
  · rw [b3, d3]
  · exact (key dd (fun k => True) (d4.elim (fun z => Or.inl ⟨z.1, trivial⟩) (fun ⟨k, z1, z2, _⟩ => Or.inr ⟨k, z1, z2, trivial⟩)) b1 b2).elim
  · exact absurd a c
  · exact (key bb (fun k => True) (bo.elim (fun z => Or.inl ⟨z.1, trivial⟩) (fun ⟨k, z1, z2, _⟩ => Or.inr ⟨k, z1, z2, trivial⟩)) d1 d2).elim
  · rw [b, d]
theorem tour_v (hw : (¬ TP ∧ rw = 1) ∨ (TP ∧ ¬ y = -1 ∧ ¬ (¬ y < 0 ∧ ¬ w < y) ∧ rw = 2) ∨ (TP ∧ rw = 0 ∧ ∃ b, o = some b ∧ ((y = -1 ∧ of9 0 = (f b).toInt64) ∨ (∃ k, k < m ∧ y = nI k ∧ of9 0 = (G b k).toInt64)))) (hm : (¬ TP ∧ t9 = 1) ∨ (TP ∧ ¬ y = -1 ∧ ¬ (¬ y < 0 ∧ ¬ w < y) ∧ t9 = 2) ∨ (TP ∧ t9 = 0 ∧ ∃ b, o = some b ∧ ((y = -1 ∧ rm = f b) ∨ (∃ k, k < m ∧ y = nI k ∧ rm = G b k)))) (h0 : rw = 0) (hb : w = nI (m - 1)) (hm5 : m ≤ 100) : of9 0 = rm.toInt64 := by
  have ht := tour_k hw hm hb hm5
  rw [h0] at ht
  rcases hw with ⟨a, b⟩ | ⟨a, b1, b2, b3⟩ | ⟨a, b, bb, eb, bo⟩
  · rw [h0] at b; exact absurd b (by decide)
  · rw [h0] at b3; exact absurd b3 (by decide)
  · rcases hm with ⟨c, d⟩ | ⟨c, d1, d2, d3⟩ | ⟨c, d, d5, ed, d4⟩
    · rw [ht] at d; exact absurd d (by decide)
    · rw [ht] at d3; exact absurd d3 (by decide)
    · obtain rfl : bb = d5 := Option.some.inj (eb.symm.trans ed)
      rcases bo with ⟨z1, z2⟩ | ⟨k, k1, k2, k3⟩ <;> rcases d4 with ⟨y1, y2⟩ | ⟨j, j1, j2, j3⟩
      · rw [z2, y2]
      · exact absurd (z1.symm.trans j2) (fun e => nI_m1 (j := j) (by omega) e.symm)
      · exact absurd (y1.symm.trans k2) (fun e => nI_m1 (j := k) (by omega) e.symm)
      · obtain rfl : k = j := nI_inj9 (k2.symm.trans j2) (by omega) (by omega)
        rw [k3, j3]
end TK
end LAWI
theorem exF_J {J : Nat → (Nat → Int32) → (Nat → UInt64) → Prop} (JH : JOK J) {tx : Nat → Int32} {L : Nat} : ∀ (n i t : Nat) (pp : Nat → Int32) (dd : Nat → UInt64) (v : Int32) (p : Nat → Int32) (d : Nat → UInt64) (r : Int32), prsN tx L n i = none → exF tx L n i pp dd v = (p, d, r) → J t pp dd → t + n ≤ JT → J (t + n) p d
  | 0, i, t, pp, dd, v, p, d, r, h, e, hJ, ht => by cases e; exact hJ
  | n + 1, i, t, pp, dd, v, p, d, r, h, e, hJ, ht => by
    unfold prsN at h
    unfold exF at e
    by_cases hi : i < L
    · rw [if_pos hi] at h e
      cases e9 : (roF tx L i).2.1 with
      | some q => rw [e9] at h; cases h
      | none =>
        rw [e9] at h
        dsimp only at h
        cases e8 : doO pp dd (tx i) (roF tx L i).2.2.1 (roF tx L i).2.2.2.1 (roF tx L i).2.2.2.2 with
        | none => rw [e8] at e; cases e; exact JH.1 _ _ _ _ hJ (by omega)
        | some z =>
          obtain ⟨x, y⟩ := z
          rw [e8] at e
          dsimp only at e
          have h1 := (JH.2.2.2.1 t pp dd (by omega) hJ).2.2.2.2 _ _ _ _ _ _ (roF_ok e9) e8
          have h2 := exF_J JH n (roF tx L i).1 (t + 1) x y (v + 1) p d r h e h1 (by omega)
          rw [show t + 1 + n = t + (n + 1) by omega] at h2
          exact h2
    · rw [if_neg hi] at e
      cases e
      exact JH.1 _ _ _ _ hJ (by omega)
theorem car_both {J : Nat → (Nat → Int32) → (Nat → UInt64) → Prop} {k n L cn rg c9 r9 n8 n9 : Nat} {pp p9 q9 tx : Nat → Int32} {dd d9 x9 : Nat → UInt64} {yp yp9 : Nat → Nat → Int32} {yd yd9 : Nat → Nat → UInt64} {yc yr yc9 yr9 : Nat → Nat} {ps s9 : Nat → Int32} {ds z9 : Nat → UInt64} {rc rm : Int32} (JH : JOK J) (hk : k < 512) (hI : LIc J k n L cn rg pp dd yp yd yc yr ps ds)
    (hC : (∃ z, prsN tx L 100 0 = some z ∧ rc = -10 - nI z ∧ p9 = pp ∧ d9 = dd ∧ c9 = cn ∧ r9 = rg ∧ yp9 = yp ∧ yd9 = yd ∧ yc9 = yc ∧ yr9 = yr ∧ n8 = n) ∨ (prsN tx L 100 0 = none ∧ exF tx L 100 0 pp dd 0 = (p9, d9, rc) ∧ p9 20 = nI c9 ∧ c9 ≤ 20 ∧ (¬ p9 22 = 0 → r9 = rgS p9 (p9 21).toInt.toNat) ∧ yp9 = svP n yp pp ∧ yd9 = svP n yd dd ∧ yc9 = svP n yc cn ∧ yr9 = svP n yr rg ∧ n8 = eN n + 1))
    (hM : (∃ z, prsN tx L 100 0 = some z ∧ z ≤ 100 ∧ rm = -10 - nI z ∧ q9 = pp ∧ x9 = dd ∧ s9 = ps ∧ z9 = ds ∧ n9 = n) ∨ (prsN tx L 100 0 = none ∧ exF tx L 100 0 pp dd 0 = (q9, x9, rm) ∧ s9 = ePs ps pp n ∧ z9 = eDs ds dd n ∧ n9 = eN n + 1)) : q9 = p9 ∧ x9 = d9 ∧ rc = rm ∧ n9 = n8 ∧ LIc J (k + 1) n8 L c9 r9 p9 d9 yp9 yd9 yc9 yr9 s9 z9 := by
  rcases hC with ⟨z, h1, h2, rfl, rfl, rfl, rfl, rfl, rfl, rfl, rfl, rfl⟩ | ⟨h1, h2, h3, h4, h5, rfl, rfl, rfl, rfl, rfl⟩ <;> rcases hM with ⟨z2, g1, g2, g3, rfl, rfl, rfl, rfl, rfl⟩ | ⟨g1, g2, rfl, rfl, rfl⟩
  · obtain rfl : z = z2 := Option.some.inj (h1.symm.trans g1)
    exact ⟨rfl, rfl, h2.trans g3.symm, rfl, LI_keep JH hI⟩
  · rw [h1] at g1; cases g1
  · rw [h1] at g1; cases g1
  · have e := h2.symm.trans g2
    obtain ⟨e1, e2, e3⟩ : p9 = q9 ∧ d9 = x9 ∧ rc = rm := by cases e; exact ⟨rfl, rfl, rfl⟩
    have hJ := exF_J JH 100 0 (100 * k) pp dd 0 p9 d9 rc h1 h2 hI.2.2.2.2.2.1 (by unfold JT; omega)
    exact ⟨e1.symm, e2.symm, e3, rfl, LI_save JH hk hI hJ h3 h4 h5⟩
theorem g_sld {p : Program} {l : Launch} {e : Env} {R : Room} {s : State} {m : MethodId} {args : Array Value} {below : List Frame} {meth : Method} {c : Code} {H : Heap} {locs : List Loc} {cells slots : Nat} {Q : State → Prop} {cc : ByteArray} {pc nL : Nat} {ls : Array Slot} {rest : List Value} {D : va_G} {g : Nat → ClassId} {A : Nat → Prop} {own : String} (E : Ev p s m args c cc nL own D g) {b0 N : Nat} {xs : Nat → Int32} (hX : va_X b0 N xs s s.heap) (hbl : b0 < s.heap.size) (hbA : ¬ A b0) (hS : va_S A s.heap H locs) {i : Int32} (j : Nat) (hi : i = nI j) (hj : j < N) (hn : N < 2 ^ 31) (hdg : decode cc pc = .ok (.iaload, 1))
    (kk : W p l e R s m args below meth c H locs cells slots Q (F0 m (pc + 1) ls (.int (xs j) :: rest))) : W p l e R s m args below meth c H locs cells slots Q (F0 m pc ls (.int i :: .ref b0 :: rest)) := by
  refine va_sld E.1.1 E.1.2.1 hX hbl hbA hS (nI_vp hi hj hn) hdg ?_
  rw [nI_cl hi hj hn]; exact kk
def LWd (g : Nat → ClassId) (b o2 o4 o5 o7 ou ow : Nat) (q zq tq qm : Nat → Nat) (n cn rg L zc zr : Nat) (pp zp : Nat → Int32) (dd zd : Nat → UInt64) (jj nj zj zn : Nat → Int32) (nd ze : Nat → UInt64) (yq : Nat → Nat → Nat) (yp : Nat → Nat → Int32) (yd : Nat → Nat → UInt64) (yj yn : Nat → Nat → Int32) (ye : Nat → Nat → UInt64) (yc yr : Nat → Nat) (i0 e0 kd f1 f2 f3 : Int32) (tx wj : Nat → Int32) (wd : Nat → UInt64) (zs bt m1 m2 m3 : Int32) (tod tbe : Nat → Int32) (aj : Nat → Nat → Int32) (ad : Nat → Nat → UInt64) (pa : Nat → Int32) (da : Nat → UInt64) (ps : Nat → Int32) (ds : Nat → UInt64) (rw mb : Nat → Int32) (th co tt hh : Int32) (ma mh : UInt64) (ai le nu ot di wh sd : Int32) (ha : Int64) (of : Nat → Int64) (og : Nat → UInt64) : va_W := [(b, .inr (7, [.ref (q 0), .ref (zq 0), .ref o2, .int (nI n), .ref o4, .ref o5, .ref (tq 0)])), ((q 0), .inr (5, [.ref (q 1), .ref (q 2), .ref (q 3), .ref (q 8), .ref (q 12), .ref (q 13), .int (pp 16), .int (pp 19), .ref (q 14)])), ((q 1), .inl (g 0, 5, .inl (pg pp 0 5))), ((q 2), .inl (g 0, 8, .inl (pg pp 5 8))), ((q 3), .inr (4, [.int (nI cn), .ref (q 4), .ref (q 5), .ref (q 6), .ref (q 7)])), ((q 4), .inl (g 0, 20, .inl (p4 pp 23 20))), ((q 5), .inl (g 0, 20, .inl (p4 pp 24 20))), ((q 6), .inl (g 0, 20, .inl (p4 pp 25 20))), ((q 7), .inl (g 0, 20, .inl (p4 pp 26 20))), ((q 8), .inr (3, [.ref (q 9), .ref (q 10), .ref (q 11)])), ((q 9), .inl (g 0, 24, .inl (pg pp 103 24))), ((q 10), .inl (g 1, 24, .inr (.inr (.inr (.inl (d2 dd 0 24)))))), ((q 11), .inl (g 1, 24, .inr (.inr (.inr (.inl (d2 dd 1 24)))))), ((q 12), .inr (1, [.int (pp 13), .int (pp 14), .int (pp 15)])), ((q 13), .inr (0, [.int (pp 21), .int (jj 0), .int (nI rg), .int (jj 2), .int (jj 3), .double (dd 50), .double (dd 51), .double (dd 48), .double (dd 49), .int (pp 22)])), ((q 14), .inr (0, [.int (nj 0), .int (nj 1), .int (nj 2), .int (nj 3), .int (nj 4), .double (nd 0), .double (nd 1), .double (nd 2), .double (nd 3), .int (nj 5)])), ((zq 0), .inr (5, [.ref (zq 1), .ref (zq 2), .ref (zq 3), .ref (zq 8), .ref (zq 12), .ref (zq 13), .int (zp 16), .int (zp 19), .ref (zq 14)])), ((zq 1), .inl (g 0, 5, .inl (pg zp 0 5))), ((zq 2), .inl (g 0, 8, .inl (pg zp 5 8))), ((zq 3), .inr (4, [.int (nI zc), .ref (zq 4), .ref (zq 5), .ref (zq 6), .ref (zq 7)])), ((zq 4), .inl (g 0, 20, .inl (p4 zp 23 20))), ((zq 5), .inl (g 0, 20, .inl (p4 zp 24 20))), ((zq 6), .inl (g 0, 20, .inl (p4 zp 25 20))), ((zq 7), .inl (g 0, 20, .inl (p4 zp 26 20))), ((zq 8), .inr (3, [.ref (zq 9), .ref (zq 10), .ref (zq 11)])), ((zq 9), .inl (g 0, 24, .inl (pg zp 103 24))), ((zq 10), .inl (g 1, 24, .inr (.inr (.inr (.inl (d2 zd 0 24)))))), ((zq 11), .inl (g 1, 24, .inr (.inr (.inr (.inl (d2 zd 1 24)))))), ((zq 12), .inr (1, [.int (zp 13), .int (zp 14), .int (zp 15)])), ((zq 13), .inr (0, [.int (zp 21), .int (zj 0), .int (nI zr), .int (zj 2), .int (zj 3), .double (zd 50), .double (zd 51), .double (zd 48), .double (zd 49), .int (zp 22)])), ((zq 14), .inr (0, [.int (zn 0), .int (zn 1), .int (zn 2), .int (zn 3), .int (zn 4), .double (ze 0), .double (ze 1), .double (ze 2), .double (ze 3), .int (zn 5)])), (o2, .inl (g 3, 4, .inr (.inr (.inr (.inr (sv4 yq)))))), (((yq 0) 0), .inr (5, [.ref ((yq 0) 1), .ref ((yq 0) 2), .ref ((yq 0) 3), .ref ((yq 0) 8), .ref ((yq 0) 12), .ref ((yq 0) 13), .int ((yp 0) 16), .int ((yp 0) 19), .ref ((yq 0) 14)])), (((yq 0) 1), .inl (g 0, 5, .inl (pg (yp 0) 0 5))), (((yq 0) 2), .inl (g 0, 8, .inl (pg (yp 0) 5 8))), (((yq 0) 3), .inr (4, [.int (nI (yc 0)), .ref ((yq 0) 4), .ref ((yq 0) 5), .ref ((yq 0) 6), .ref ((yq 0) 7)])), (((yq 0) 4), .inl (g 0, 20, .inl (p4 (yp 0) 23 20))), (((yq 0) 5), .inl (g 0, 20, .inl (p4 (yp 0) 24 20))), (((yq 0) 6), .inl (g 0, 20, .inl (p4 (yp 0) 25 20))), (((yq 0) 7), .inl (g 0, 20, .inl (p4 (yp 0) 26 20))), (((yq 0) 8), .inr (3, [.ref ((yq 0) 9), .ref ((yq 0) 10), .ref ((yq 0) 11)])), (((yq 0) 9), .inl (g 0, 24, .inl (pg (yp 0) 103 24))), (((yq 0) 10), .inl (g 1, 24, .inr (.inr (.inr (.inl (d2 (yd 0) 0 24)))))), (((yq 0) 11), .inl (g 1, 24, .inr (.inr (.inr (.inl (d2 (yd 0) 1 24)))))), (((yq 0) 12), .inr (1, [.int ((yp 0) 13), .int ((yp 0) 14), .int ((yp 0) 15)])), (((yq 0) 13), .inr (0, [.int ((yp 0) 21), .int ((yj 0) 0), .int (nI (yr 0)), .int ((yj 0) 2), .int ((yj 0) 3), .double ((yd 0) 50), .double ((yd 0) 51), .double ((yd 0) 48), .double ((yd 0) 49), .int ((yp 0) 22)])), (((yq 0) 14), .inr (0, [.int ((yn 0) 0), .int ((yn 0) 1), .int ((yn 0) 2), .int ((yn 0) 3), .int ((yn 0) 4), .double ((ye 0) 0), .double ((ye 0) 1), .double ((ye 0) 2), .double ((ye 0) 3), .int ((yn 0) 5)])), (((yq 1) 0), .inr (5, [.ref ((yq 1) 1), .ref ((yq 1) 2), .ref ((yq 1) 3), .ref ((yq 1) 8), .ref ((yq 1) 12), .ref ((yq 1) 13), .int ((yp 1) 16), .int ((yp 1) 19), .ref ((yq 1) 14)])), (((yq 1) 1), .inl (g 0, 5, .inl (pg (yp 1) 0 5))), (((yq 1) 2), .inl (g 0, 8, .inl (pg (yp 1) 5 8))), (((yq 1) 3), .inr (4, [.int (nI (yc 1)), .ref ((yq 1) 4), .ref ((yq 1) 5), .ref ((yq 1) 6), .ref ((yq 1) 7)])), (((yq 1) 4), .inl (g 0, 20, .inl (p4 (yp 1) 23 20))), (((yq 1) 5), .inl (g 0, 20, .inl (p4 (yp 1) 24 20))), (((yq 1) 6), .inl (g 0, 20, .inl (p4 (yp 1) 25 20))), (((yq 1) 7), .inl (g 0, 20, .inl (p4 (yp 1) 26 20))), (((yq 1) 8), .inr (3, [.ref ((yq 1) 9), .ref ((yq 1) 10), .ref ((yq 1) 11)])), (((yq 1) 9), .inl (g 0, 24, .inl (pg (yp 1) 103 24))), (((yq 1) 10), .inl (g 1, 24, .inr (.inr (.inr (.inl (d2 (yd 1) 0 24)))))), (((yq 1) 11), .inl (g 1, 24, .inr (.inr (.inr (.inl (d2 (yd 1) 1 24)))))), (((yq 1) 12), .inr (1, [.int ((yp 1) 13), .int ((yp 1) 14), .int ((yp 1) 15)])), (((yq 1) 13), .inr (0, [.int ((yp 1) 21), .int ((yj 1) 0), .int (nI (yr 1)), .int ((yj 1) 2), .int ((yj 1) 3), .double ((yd 1) 50), .double ((yd 1) 51), .double ((yd 1) 48), .double ((yd 1) 49), .int ((yp 1) 22)])), (((yq 1) 14), .inr (0, [.int ((yn 1) 0), .int ((yn 1) 1), .int ((yn 1) 2), .int ((yn 1) 3), .int ((yn 1) 4), .double ((ye 1) 0), .double ((ye 1) 1), .double ((ye 1) 2), .double ((ye 1) 3), .int ((yn 1) 5)])), (((yq 2) 0), .inr (5, [.ref ((yq 2) 1), .ref ((yq 2) 2), .ref ((yq 2) 3), .ref ((yq 2) 8), .ref ((yq 2) 12), .ref ((yq 2) 13), .int ((yp 2) 16), .int ((yp 2) 19), .ref ((yq 2) 14)])), (((yq 2) 1), .inl (g 0, 5, .inl (pg (yp 2) 0 5))), (((yq 2) 2), .inl (g 0, 8, .inl (pg (yp 2) 5 8))), (((yq 2) 3), .inr (4, [.int (nI (yc 2)), .ref ((yq 2) 4), .ref ((yq 2) 5), .ref ((yq 2) 6), .ref ((yq 2) 7)])), (((yq 2) 4), .inl (g 0, 20, .inl (p4 (yp 2) 23 20))), (((yq 2) 5), .inl (g 0, 20, .inl (p4 (yp 2) 24 20))), (((yq 2) 6), .inl (g 0, 20, .inl (p4 (yp 2) 25 20))), (((yq 2) 7), .inl (g 0, 20, .inl (p4 (yp 2) 26 20))), (((yq 2) 8), .inr (3, [.ref ((yq 2) 9), .ref ((yq 2) 10), .ref ((yq 2) 11)])), (((yq 2) 9), .inl (g 0, 24, .inl (pg (yp 2) 103 24))), (((yq 2) 10), .inl (g 1, 24, .inr (.inr (.inr (.inl (d2 (yd 2) 0 24)))))), (((yq 2) 11), .inl (g 1, 24, .inr (.inr (.inr (.inl (d2 (yd 2) 1 24)))))), (((yq 2) 12), .inr (1, [.int ((yp 2) 13), .int ((yp 2) 14), .int ((yp 2) 15)])), (((yq 2) 13), .inr (0, [.int ((yp 2) 21), .int ((yj 2) 0), .int (nI (yr 2)), .int ((yj 2) 2), .int ((yj 2) 3), .double ((yd 2) 50), .double ((yd 2) 51), .double ((yd 2) 48), .double ((yd 2) 49), .int ((yp 2) 22)])), (((yq 2) 14), .inr (0, [.int ((yn 2) 0), .int ((yn 2) 1), .int ((yn 2) 2), .int ((yn 2) 3), .int ((yn 2) 4), .double ((ye 2) 0), .double ((ye 2) 1), .double ((ye 2) 2), .double ((ye 2) 3), .int ((yn 2) 5)])), (((yq 3) 0), .inr (5, [.ref ((yq 3) 1), .ref ((yq 3) 2), .ref ((yq 3) 3), .ref ((yq 3) 8), .ref ((yq 3) 12), .ref ((yq 3) 13), .int ((yp 3) 16), .int ((yp 3) 19), .ref ((yq 3) 14)])), (((yq 3) 1), .inl (g 0, 5, .inl (pg (yp 3) 0 5))), (((yq 3) 2), .inl (g 0, 8, .inl (pg (yp 3) 5 8))), (((yq 3) 3), .inr (4, [.int (nI (yc 3)), .ref ((yq 3) 4), .ref ((yq 3) 5), .ref ((yq 3) 6), .ref ((yq 3) 7)])), (((yq 3) 4), .inl (g 0, 20, .inl (p4 (yp 3) 23 20))), (((yq 3) 5), .inl (g 0, 20, .inl (p4 (yp 3) 24 20))), (((yq 3) 6), .inl (g 0, 20, .inl (p4 (yp 3) 25 20))), (((yq 3) 7), .inl (g 0, 20, .inl (p4 (yp 3) 26 20))), (((yq 3) 8), .inr (3, [.ref ((yq 3) 9), .ref ((yq 3) 10), .ref ((yq 3) 11)])), (((yq 3) 9), .inl (g 0, 24, .inl (pg (yp 3) 103 24))), (((yq 3) 10), .inl (g 1, 24, .inr (.inr (.inr (.inl (d2 (yd 3) 0 24)))))), (((yq 3) 11), .inl (g 1, 24, .inr (.inr (.inr (.inl (d2 (yd 3) 1 24)))))), (((yq 3) 12), .inr (1, [.int ((yp 3) 13), .int ((yp 3) 14), .int ((yp 3) 15)])), (((yq 3) 13), .inr (0, [.int ((yp 3) 21), .int ((yj 3) 0), .int (nI (yr 3)), .int ((yj 3) 2), .int ((yj 3) 3), .double ((yd 3) 50), .double ((yd 3) 51), .double ((yd 3) 48), .double ((yd 3) 49), .int ((yp 3) 22)])), (((yq 3) 14), .inr (0, [.int ((yn 3) 0), .int ((yn 3) 1), .int ((yn 3) 2), .int ((yn 3) 3), .int ((yn 3) 4), .double ((ye 3) 0), .double ((ye 3) 1), .double ((ye 3) 2), .double ((ye 3) 3), .int ((yn 3) 5)])), (o4, .inr (2, [.ref o7, .int (nI L), .int i0, .int e0, .int kd, .int f1, .int f2, .int f3])), (o7, .inl (g 0, 100, .inl tx)), (o5, .inr (0, [.int (wj 0), .int (wj 1), .int (wj 2), .int (wj 3), .int (wj 4), .double (wd 0), .double (wd 1), .double (wd 2), .double (wd 3), .int (wj 5)])), ((tq 0), .inr (6, [.ref (tq 1), .ref (tq 2), .ref (tq 3), .ref (tq 4), .int zs, .int bt])), ((tq 1), .inl (g 2, 5, .inr (.inr (.inr (.inr (pl5 tq)))))), ((tq 2), .inl (g 0, 5, .inl tod)), ((tq 3), .inl (g 0, 5, .inl tbe)), ((tq 4), .inr (1, [.int m1, .int m2, .int m3])), ((tq 5), .inr (0, [.int ((aj 0) 0), .int ((aj 0) 1), .int ((aj 0) 2), .int ((aj 0) 3), .int ((aj 0) 4), .double ((ad 0) 0), .double ((ad 0) 1), .double ((ad 0) 2), .double ((ad 0) 3), .int ((aj 0) 5)])), ((tq 6), .inr (0, [.int ((aj 1) 0), .int ((aj 1) 1), .int ((aj 1) 2), .int ((aj 1) 3), .int ((aj 1) 4), .double ((ad 1) 0), .double ((ad 1) 1), .double ((ad 1) 2), .double ((ad 1) 3), .int ((aj 1) 5)])), ((tq 7), .inr (0, [.int ((aj 2) 0), .int ((aj 2) 1), .int ((aj 2) 2), .int ((aj 2) 3), .int ((aj 2) 4), .double ((ad 2) 0), .double ((ad 2) 1), .double ((ad 2) 2), .double ((ad 2) 3), .int ((aj 2) 5)])), ((tq 8), .inr (0, [.int ((aj 3) 0), .int ((aj 3) 1), .int ((aj 3) 2), .int ((aj 3) 3), .int ((aj 3) 4), .double ((ad 3) 0), .double ((ad 3) 1), .double ((ad 3) 2), .double ((ad 3) 3), .int ((aj 3) 5)])), ((tq 9), .inr (0, [.int ((aj 4) 0), .int ((aj 4) 1), .int ((aj 4) 2), .int ((aj 4) 3), .int ((aj 4) 4), .double ((ad 4) 0), .double ((ad 4) 1), .double ((ad 4) 2), .double ((ad 4) 3), .int ((aj 4) 5)])), ((qm 0), .inr (8, [.ref (qm 1), .ref (qm 2), .ref (qm 3), .ref (qm 4), .ref (qm 5), .ref (qm 6), .int (nI n), .ref (qm 7), .int (nI L), .int th, .int co, .int tt, .int hh, .double ma, .double mh, .ref (qm 8), .ref (qm 9), .int ai, .int le, .int nu, .int ot, .int di, .int wh, .int sd, .long ha])), ((qm 1), .inl (g 0, 127, .inl pp)), ((qm 2), .inl (g 1, 52, .inr (.inr (.inr (.inl dd))))), ((qm 3), .inl (g 0, 127, .inl pa)), ((qm 4), .inl (g 1, 52, .inr (.inr (.inr (.inl da))))), ((qm 5), .inl (g 0, 508, .inl ps)), ((qm 6), .inl (g 1, 208, .inr (.inr (.inr (.inl ds))))), ((qm 7), .inl (g 0, 100, .inl tx)), ((qm 8), .inl (g 0, 5, .inl rw)), ((qm 9), .inl (g 0, 5, .inl mb)), (ou, .inl (g 4, 1, .inr (.inl of))), (ow, .inl (g 1, 1, .inr (.inr (.inr (.inl og)))))]
def LHK (p : Program) (l : Launch) (e : Env) (s : State) (m : MethodId) (below : List Frame) (meth : Method) (c : Code) (A : Nat → Prop) (Q : State → Prop) (D : va_G) (g : Nat → ClassId) (bs : Nat) (J : Nat → (Nat → Int32) → (Nat → UInt64) → Prop) (b o2 o4 o5 o7 ou ow : Nat) (q zq tq qm : Nat → Nat) (k : Nat) : Prop := ∀ (n cn rg L zc zr : Nat) (pp zp : Nat → Int32) (dd zd : Nat → UInt64) (jj nj zj zn : Nat → Int32) (nd ze : Nat → UInt64) (yq : Nat → Nat → Nat) (yp : Nat → Nat → Int32) (yd : Nat → Nat → UInt64) (yj yn : Nat → Nat → Int32) (ye : Nat → Nat → UInt64) (yc yr : Nat → Nat) (i0 e0 kd f1 f2 f3 : Int32) (tx wj : Nat → Int32) (wd : Nat → UInt64) (zs bt m1 m2 m3 : Int32) (tod tbe : Nat → Int32) (aj : Nat → Nat → Int32) (ad : Nat → Nat → UInt64) (pa : Nat → Int32) (da : Nat → UInt64) (ps : Nat → Int32) (ds : Nat → UInt64) (rw mb : Nat → Int32) (th co tt hh : Int32) (ma mh : UInt64) (ai le nu ot di wh sd : Int32) (ha : Int64) (of : Nat → Int64) (og : Nat → UInt64) (H : Heap) (locs : List Loc) (ls : Array Slot), LIc J k n L cn rg pp dd yp yd yc yr ps ds → va_P D vwCl (LWd g b o2 o4 o5 o7 ou ow q zq tq qm n cn rg L zc zr pp zp dd zd jj nj zj zn nd ze yq yp yd yj yn ye yc yr i0 e0 kd f1 f2 f3 tx wj wd zs bt m1 m2 m3 tod tbe aj ad pa da ps ds rw mb th co tt hh ma mh ai le nu ot di wh sd ha of og) H → va_D A (LWd g b o2 o4 o5 o7 ou ow q zq tq qm n cn rg L zc zr pp zp dd zd jj nj zj zn nd ze yq yp yd yj yn ye yc yr i0 e0 kd f1 f2 f3 tx wj wd zs bt m1 m2 m3 tod tbe aj ad pa da ps ds rw mb th co tt hh ma mh ai le nu ot di wh sd ha of og) → va_S A s.heap H locs → lv_has ls 9 [(0, .ref bs), (1, .ref b), (2, .ref (qm 0)), (3, .ref ou), (4, .ref ow), (5, .int (nI (4 * k)))] → W p l e room_1 s m #[.ref bs] below meth c H locs (117 + k) (2644 + 6 * k) Q (F0 m 28 ls [])

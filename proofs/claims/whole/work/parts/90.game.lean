/-! a game: its moves, the positions behind them -/
abbrev GSt : Type := Nat × Nat × (Nat → MvT)
def gP (n : Nat) (mv : Nat → MvT) : Nat → PosT
  | 0 => start n
  | k + 1 => mvD (gP n mv k) (mv k)
def gC (n : Nat) (mv : Nat → MvT) : Nat → Nat
  | 0 => n
  | k + 1 => if (mv k).1.2.1 = (mv k).1.2.2.2.1 then gC n mv k else gC n mv k - 1
def lgl (P : PosT) (m : MvT) : Prop := legal P m.1.1 m.1.2.1 m.1.2.2.1 m.1.2.2.2.1 m.1.2.2.2.2 m.2
def gOK (n t : Nat) (mv : Nat → MvT) : Prop := 1 ≤ n ∧ n ≤ 8 ∧ ∀ k, k < t → lgl (gP n mv k) (mv k)
def pu (mv : Nat → MvT) (t : Nat) (m : MvT) : Nat → MvT := fun k => if k = t then m else mv k
theorem pu_eq {mv : Nat → MvT} {t : Nat} {m : MvT} : pu mv t m t = m := if_pos rfl
theorem pu_ne {mv : Nat → MvT} {t k : Nat} {m : MvT} (h : k ≠ t) : pu mv t m k = mv k := if_neg h
theorem gP_congr {n : Nat} {mv mv2 : Nat → MvT} : ∀ {k : Nat}, (∀ l, l < k → mv2 l = mv l) → gP n mv2 k = gP n mv k
  | 0, _ => rfl
  | k + 1, h => by
    show mvD (gP n mv2 k) (mv2 k) = mvD (gP n mv k) (mv k)
    rw [gP_congr fun l hl => h l (by omega), h k (by omega)]
theorem gC_congr {n : Nat} {mv mv2 : Nat → MvT} : ∀ {k : Nat}, (∀ l, l < k → mv2 l = mv l) → gC n mv2 k = gC n mv k
  | 0, _ => rfl
  | k + 1, h => by
    show (if _ then _ else _) = (if _ then _ else _)
    rw [gC_congr fun l hl => h l (by omega), h k (by omega)]
theorem gP_pu {n t k : Nat} {mv : Nat → MvT} {m : MvT} (h : k ≤ t) : gP n (pu mv t m) k = gP n mv k := gP_congr fun l hl => pu_ne (by omega)
theorem gC_pu {n t k : Nat} {mv : Nat → MvT} {m : MvT} (h : k ≤ t) : gC n (pu mv t m) k = gC n mv k := gC_congr fun l hl => pu_ne (by omega)
theorem gP_new {n t : Nat} {mv : Nat → MvT} {m : MvT} : gP n (pu mv t m) (t + 1) = mvD (gP n mv t) m := by
  show mvD (gP n (pu mv t m) t) (pu mv t m t) = _
  rw [gP_pu (Nat.le_refl _), pu_eq]
theorem gC_new {n t : Nat} {mv : Nat → MvT} {m : MvT} : gC n (pu mv t m) (t + 1) = if m.1.2.1 = m.1.2.2.2.1 then gC n mv t else gC n mv t - 1 := by
  show (if _ then _ else _) = _
  rw [gC_pu (Nat.le_refl _), pu_eq]
theorem gOK.pu {n t : Nat} {mv : Nat → MvT} {m : MvT} (h : gOK n t mv) (hl : lgl (gP n mv t) m) : gOK n (t + 1) (pu mv t m) := by
  refine ⟨h.1, h.2.1, fun k hk => ?_⟩
  by_cases e : k = t
  · subst e
    rw [gP_pu (Nat.le_refl _), pu_eq]
    exact hl
  · rw [gP_pu (by omega), pu_ne e]
    exact h.2.2 k (by omega)
theorem gOK.le {n t t2 : Nat} {mv : Nat → MvT} (h : gOK n t mv) (hl : t2 ≤ t) : gOK n t2 mv := ⟨h.1, h.2.1, fun k hk => h.2.2 k (by omega)⟩
theorem gOK.all {n t : Nat} {mv : Nat → MvT} (h : gOK n t mv) : ∀ k, k ≤ t → inv n k (gP n mv k) ∧ tree (gP n mv k).2 ∧ pcs (gP n mv k) (gC n mv k)
  | 0, _ => ⟨inv_start h.1 h.2.1, tree_start, pcs_start⟩
  | k + 1, hk => by
    obtain ⟨h1, h2, h3⟩ := h.all k (by omega)
    have hL := h.2.2 k (by omega)
    exact ⟨inv_mv h1 hL, tree_mv hL h1.2.2.2.1 h2, (pcs_mv hL h1.2.2.2.1 h1.2.2.2.2.1 h2 h3).1⟩
theorem cntF_pos {g : Nat → Nat} (h : g 0 = 0) : ∀ n, 1 ≤ n → 1 ≤ cntF g n
  | 0, hn => absurd hn (by omega)
  | 1, _ => by
    show 1 ≤ cntF g 0 + (if g 0 = 0 then 1 else 0)
    rw [if_pos h]
    omega
  | n + 2, _ => by
    have := cntF_pos h (n + 1) (by omega)
    show 1 ≤ cntF g (n + 1) + _
    omega
theorem pcs_pos {P : PosT} {c : Nat} (h : pcs P c) (hl : 1 ≤ P.1.length) : 1 ≤ c := by
  obtain ⟨g, hg, rfl⟩ := h
  have := (hg.1 0 (by omega)).1
  exact cntF_pos (by omega) _ hl
section GM
variable {n t k : Nat} {mv : Nat → MvT}
theorem gOK.iv (h : gOK n t mv) (hk : k ≤ t) : inv n k (gP n mv k) := (h.all k hk).1
theorem gOK.t23 (h : gOK n t mv) : t ≤ 23 := (h.iv (Nat.le_refl t)).cap.2.2
theorem gOK.vl (h : gOK n t mv) (hk : k ≤ t) : vld (gP n mv k) := by
  have := h.iv hk
  exact ⟨this.2.2.2.1, this.2.2.2.2.1, this.2.2.2.2.2.1⟩
theorem gOK.sum (h : gOK n t mv) (hk : k ≤ t) : (gP n mv k).1.sum < 1000 := by
  have := (h.iv hk).2.2.1
  have := h.2.1
  omega
theorem gOK.pos (h : gOK n t mv) (hk : k ≤ t) : 1 ≤ gC n mv k := by
  have h1 := (h.iv hk).2.1
  have h2 := h.1
  exact pcs_pos (h.all k hk).2.2 (by omega)
theorem gOK.cnt (h : gOK n t mv) (hk : k ≤ t) {g : Nat → Nat} (hg : good (gP n mv k) g) : cntF g (gP n mv k).1.length = gC n mv k := by
  obtain ⟨g2, h2, e⟩ := (h.all k hk).2.2
  rw [← e]
  exact good_cnt hg h2
theorem gOK.room (h : gOK n t mv) {m : MvT} (hl : lgl (gP n mv t) m) : t + 1 ≤ 23 := (h.pu hl).t23
theorem sd_le {P : PosT} (h : inv n t P) (c : Cur) : sidesP P c ≤ 128 := by
  unfold sidesP
  split
  · have h1 : fl P c.1 ≤ 8 := by
      by_cases e : c.1 < P.2.length
      · exact h.2.2.2.2.2.2.1 _ (List.mem_of_getElem? (gD (d := []) e))
      · rw [fl_out (by omega)]; omega
    exact Nat.le_trans (Nat.pow_le_pow_right (by omega) (show fl P c.1 - 1 ≤ 7 by omega)) (by decide)
  · omega
theorem mvs_len {P : PosT} (h : inv n t P) : (mvs P).length ≤ 1280000 := by
  have hc := h.cap.1.2.2.2
  have h1 := prs_len (P := P)
  have h2 : (pC P).length * (pC P).length ≤ 100 * 100 := Nat.mul_le_mul hc hc
  rw [mvs_prs]
  have h3 : (mvp P (prs P cur0)).length ≤ ((prs P cur0).map (sdL P)).length * 128 := flat_le fun x hx => by
    obtain ⟨c, -, rfl⟩ := List.mem_map.mp hx
    rw [sdL_len]
    exact sd_le h c
  rw [List.length_map] at h3
  omega
end GM
def mvL (m : MvT) : List Nat := [m.1.1, m.1.2.1, m.1.2.2.1, m.1.2.2.2.1, m.1.2.2.2.2, m.2]
def mvV (m : MvT) : List Value := vFs m.1.1 m.1.2.1 m.1.2.2.1 m.1.2.2.2.1 m.1.2.2.2.2 m.2
/-- the parts of a move -/
def mPt (m : MvT) (w : Int32) : Int32 := prt (nI m.1.1) (nI m.1.2.1) (nI m.1.2.2.1) (nI m.1.2.2.2.1) (nI m.1.2.2.2.2) (nI m.2) w
/-! what both answer, and what becomes of the game -/
abbrev Ab : Type := GSt × (Nat → Option GSt)
def aP (A : Ab) : PosT := gP A.1.1 A.1.2.2 A.1.2.1
def abOK (A : Ab) : Prop := gOK A.1.1 A.1.2.1 A.1.2.2 ∧ ∀ k G, k < 4 → A.2 k = some G → gOK G.1 G.2.1 G.2.2
def aCount (A : Ab) (x : Int32) : Int32 := prt (nI (aP A).1.length) (nI (aP A).2.length) (nI A.1.2.1) (nI (aP A).1.sum) (nI (pW (aP A)).length) (nI (gC A.1.1 A.1.2.2 A.1.2.1)) x
noncomputable def cI {α : Type} (p : Prop) (a b : α) : α := @ite α p (Classical.propDecidable p) a b
theorem cI_t {α : Type} {p : Prop} {a b : α} (h : p) : cI p a b = a := if_pos h
theorem cI_f {α : Type} {p : Prop} {a b : α} (h : ¬ p) : cI p a b = b := if_neg h
noncomputable def aWalls (P : PosT) (x : Int32) : Int32 := cI (isN x P.2.length) (nI (fl P (uI x))) (-1)
noncomputable def aCorners (P : PosT) (x y : Int32) : Int32 := cI (isWl P x y) (nI (wl P (uI x) (uI y))) (-1)
noncomputable def aCorner (P : PosT) (x y k : Int32) : Int32 := cI (isCo P x y k) (nI (((P.2.getD (uI x) []).getD (uI y) []).getD (uI k) 0)) (-1)
noncomputable def aLives (P : PosT) (x : Int32) : Int32 := cI (isN x P.1.length) (nI (P.1.getD (uI x) 0)) (-1)
def xMv (x1 x2 x3 x4 x5 x6 : Int32) : MvT := ((uI x1, uI x2, uI x3, uI x4, uI x5), uI x6)
def doA (A : Ab) (m : MvT) : Ab := ((A.1.1, A.1.2.1 + 1, pu A.1.2.2 A.1.2.1 m), A.2)
noncomputable def aJoin (A : Ab) (x1 x2 x3 x4 x5 x6 : Int32) : Int32 × Ab := cI (lawful (aP A) x1 x2 x3 x4 x5 x6) ((nI (aP A).1.length, doA A (xMv x1 x2 x3 x4 x5 x6))) ((-1, A))
def aK (P : PosT) (x : Int32) : Option MvT := if x < 0 then none else (mvs P)[uI x]?
def aMove (A : Ab) (x : Int32) : Int32 × Ab := match aK (aP A) x with
  | none => (-1, A)
  | some m => (nI (aP A).1.length, doA A m)
def aTell (A : Ab) (x w : Int32) : Int32 := match aK (aP A) x with
  | none => -1
  | some m => mPt m w
def aUndo (A : Ab) : Int32 × Ab := if A.1.2.1 = 0 then (-1, A) else (nI (A.1.2.1 - 1), ((A.1.1, A.1.2.1 - 1, A.1.2.2), A.2))
noncomputable def aMade (A : Ab) (x w : Int32) : Int32 := cI (isN x A.1.2.1) (mPt (A.1.2.2 (uI x)) w) (-1)
noncomputable def aBegin (A : Ab) (x : Int32) : Int32 × Ab := cI (isN x 9 ∧ x ≠ 0) ((nI 1, ((uI x, 0, A.1.2.2), A.2))) ((nI 0, A))
noncomputable def aImage (A : Ab) (x : Int32) : Int32 × Ab := cI (isN x 4) ((nI 1, (A.1, fun k => if k = uI x then some A.1 else A.2 k))) ((nI 0, A))
noncomputable def aAgain (A : Ab) (x : Int32) : Int32 × Ab := cI (isN x 4) ((match A.2 (uI x) with
  | none => (nI 0, A)
  | some G => (nI 1, (G, A.2)))) ((nI 0, A))
theorem nI_ge0 {k : Nat} (h : k < 2147483648) : ¬ nI k < 0 := fun q => by
  have h1 := Int32.lt_iff_toInt_lt.mp q
  have h2 := Int32.le_iff_toInt_le.mp (nI_pos' (n := k) (by omega))
  omega
theorem aK_none {P : PosT} {x : Int32} (h : ∀ k, x = nI k → k < 2147483648 → (mvs P)[k]? = none) : aK P x = none := by
  unfold aK
  by_cases e : x < 0
  · rw [if_pos e]
  · rw [if_neg e]
    obtain ⟨k, hk, rfl⟩ := nI_of e
    rw [uI_nI (by omega)]
    exact h k rfl hk
theorem aK_some {P : PosT} {k : Nat} {m : MvT} (hk : k < 2147483648) (h : (mvs P)[k]? = some m) : aK P (nI k) = some m := by
  unfold aK
  rw [if_neg (nI_ge0 hk), uI_nI (by omega)]
  exact h
theorem aK_legal {P : PosT} {x : Int32} {m : MvT} (h : aK P x = some m) : lgl P m := by
  unfold aK at h
  split at h
  · cases h
  · exact mvs_legal (List.mem_of_getElem? h)
theorem lawful_x {P : PosT} (hs : sm P) (hw : wB P) {x1 x2 x3 x4 x5 x6 : Int32} (h : lawful P x1 x2 x3 x4 x5 x6) : lgl P (xMv x1 x2 x3 x4 x5 x6) ∧ x1 = nI (uI x1) ∧ x2 = nI (uI x2) ∧ x3 = nI (uI x3) ∧ x4 = nI (uI x4) ∧ x5 = nI (uI x5) ∧ x6 = nI (uI x6) := by
  refine ⟨?_, (nI_uI _).symm, (nI_uI _).symm, (nI_uI _).symm, (nI_uI _).symm, (nI_uI _).symm, (nI_uI _).symm⟩
  obtain ⟨f, u, i, v, j, s, rfl, rfl, rfl, rfl, rfl, rfl, hL⟩ := h
  obtain ⟨t1, t2, t3, t4, t5⟩ := of_decide_eq_true hL.1
  simp only at t1 t2 t3 t4 t5
  have q1 := hs.1
  have q2 := hs.2.1 f
  have q3 := hs.2.2 f u
  have q4 := hs.2.2 f v
  have q5 := hL.2.2.2.2
  have q6 := sides_lt (t := (f, u, i, v, j)) hw
  unfold xMv
  rw [uI_nI (by omega), uI_nI (by omega), uI_nI (by omega), uI_nI (by omega), uI_nI (by omega), uI_nI (by omega)]
  exact hL

/-! the reference's next tuple -/
def curM (t : Cur) : Nat := (((33 - t.1) * 66 + (65 - t.2.1)) * 202 + (201 - t.2.2.1)) * 66 + (65 - t.2.2.2.1)
def sidesP (P : PosT) (t : Cur) : Nat := if t.2.1 = t.2.2.2.1 then 2 ^ (fl P t.1 - 1) else 1
/-- can the tuple's corners be joined -/
def canT (P : PosT) (t : Cur) : Bool := cM P.1 (((P.2.getD t.1 []).getD t.2.1 []).getD t.2.2.1 0) (((P.2.getD t.1 []).getD t.2.2.2.1 []).getD t.2.2.2.2 0)
/-- spots and lives are what they may be -/
def posOK (P : PosT) : Prop := (∀ a ∈ pC P, a < P.1.length) ∧ ∀ v ∈ P.1, v ≤ 3
theorem mem_pC {P : PosT} {f u i a : Nat} {F : List (List Nat)} {x : List Nat} (hf : P.2[f]? = some F) (hu : F[u]? = some x) (hi : x[i]? = some a) : a ∈ pC P := by
  have h1 : (pW P)[lSt P.2 f + u]? = some x := lSt_at hf hu
  exact List.mem_of_getElem? (lSt_at h1 hi)
/-- where the walk stands behind a 'next' or 'steps' -/
def qC (v : Int32) (h : HP) (M z : Nat) (kn kz : Int32) (R : Cur → Int32 → Prop) : ipQ := fun o h2 z2 => o = some (.int v) ∧ z2 = z ∧ ∃ t ms, h2 = mC h M kn t ms kz ∧ R t ms
section REF
variable {sc : ipSc} {d z M p q : Nat} {h : HP} {fs : List Value} {al a1 : Nat → Int32} {P : PosT} {kn kz : Int32}
theorem t_canT (H : mdA h M fs al) (HR : rowIs al p P) (hp : p + 332 ≤ 52000) (hok : posOK P) {f u i v j : Nat} (ht : isTh P (f, u, i, v, j) = true) : ipC sc (d + 3) 106 [.ref M, .int (nI p), .int (nI f), .int (nI u), .int (nI i), .int (nI v), .int (nI j)] h z 0 0 (qI (nI (canT P (f, u, i, v, j)).toNat) h z) := by
  obtain ⟨t1, t2, t3, t4, t5⟩ := of_decide_eq_true ht
  have hf : P.2[f]? = some (P.2.getD f []) := gD t1
  have hu : (P.2.getD f [])[u]? = some ((P.2.getD f []).getD u []) := gD t2
  have hv : (P.2.getD f [])[v]? = some ((P.2.getD f []).getD v []) := gD t4
  have hi : ((P.2.getD f []).getD u [])[i]? = some (((P.2.getD f []).getD u []).getD i 0) := gD t3
  have hj : ((P.2.getD f []).getD v [])[j]? = some (((P.2.getD f []).getD v []).getD j 0) := gD t5
  have ha := hok.1 _ (mem_pC hf hu hi)
  have hb := hok.1 _ (mem_pC hf hv hj)
  have la := gD (d := 0) ha
  have lb := gD (d := 0) hb
  exact t_can H HR hp hf hu hi hv hj la lb (hok.2 _ (List.mem_of_getElem? la)) (hok.2 _ (List.mem_of_getElem? lb))
set_option maxRecDepth 100000 in
theorem t_find (H : mdA h M fs al) (HR : rowIs al p P) (hp : p + 332 ≤ 52000) (ms : Int32) (o2 : Option Value) (Q : ipQ) (L : List Cur)
    (h0 : ∀ t, L = [] → Q (some (.int (nI 0))) (mC h M kn t ms kz) z) (h1 : ∀ f u i v j, isTh P (f, u, i, v, j) = true → curB (f, u, i, v, j) → L = (f, u, i, v, j) :: rem P (f, u, i, v, j + 1) → Q (some (.int (nI 1))) (mC h M kn (f, u, i, v, j) ms kz) z) :
    ∀ (n : Nat) (t : Cur), curM t ≤ n → curB t → rem P t = L → ip sc (ipC sc (d + 3)) 116 0 0 Q 114 [some (.ref M), some (.int (nI p)), o2] [] (mC h M kn t ms kz) z 0 0 := by
  intro n
  induction n with
  | zero =>
    intro t hm hc
    obtain ⟨f, u, i, v, j⟩ := t
    obtain ⟨k1, k2, k3, k4, k5⟩ := hc
    simp only [curM] at hm k1 k2 k3 k4 k5
    omega
  | succ n ih =>
    intro t hm hc hL
    obtain ⟨f, u, i, v, j⟩ := t
    have hc0 := hc
    obtain ⟨k1, k2, k3, k4, k5⟩ := hc
    simp only [curM] at hm
    simp only at k1 k2 k3 k4 k5
    have hb := HR.2.2.2.2.2
    have hb1 := hb.2.1
    have hb2 := rowB_fl hb f
    have hb3 := rowB_wl hb f u
    have hb4 := rowB_wl hb f v
    have HC := H.cur (kn := kn) (t := (f, u, i, v, j)) (ms := ms) (kz := kz)
    have nx : ∀ t2 : Cur, curM t2 ≤ n → curB t2 → rem P (f, u, i, v, j) = rem P t2 → ip sc (ipC sc (d + 3)) 116 0 0 Q 114 [some (.ref M), some (.int (nI p)), o2] [] (mC h M kn t2 ms kz) z 0 0 := fun t2 e1 e2 e3 => ih t2 e1 e2 (e3.symm.trans hL)
    refine c116_114 (v_fs1_6 := f) HC.1 rfl HC.2.1 HC.2.2 (by omega) (by decide) HR.1.2.1 (by omega) (by omega) (fun r => c116_374 (h0 _ (hL.symm.trans (rem_end r)))) (fun r1 => ?_)
    have hF : al (p + 36 + f) = nI (fl P f) := HR.fl (gD (by omega))
    refine c116_129 HC.1 (Nat.zero_le _) (Nat.zero_le _) (t_isThere HC HR hp hc0) (kI ?_)
    by_cases ht : isTh P (f, u, i, v, j) = true
    · rw [ht]
      obtain ⟨t1, t2, t3, t4, t5⟩ := of_decide_eq_true ht
      exact c116_134 (by decide) (fun r => absurd r (by decide)) (fun _ => c116_137 (h1 _ _ _ _ _ ht hc0 (hL.symm.trans (rem_at t3 t5))))
    · have ht2 : isTh P (f, u, i, v, j) = false := by
        cases e : isTh P (f, u, i, v, j)
        · rfl
        · exact absurd e ht
      rw [ht2]
      have hnt : ¬ (f < P.2.length ∧ u < fl P f ∧ i < wl P f u ∧ v < fl P f ∧ j < wl P f v) := fun r => ht (decide_eq_true r)
      refine c116_134 (by decide) (fun _ => ?_) (fun r => absurd rfl r)
      -- the four ways on
      have wayF : fl P f ≤ u → ip sc (ipC sc (d + 3)) 116 0 0 Q 341 [some (.ref M), some (.int (nI p)), o2] [] (mC h M kn (f, u, i, v, j) ms kz) z 0 0 := by
        intro r
        refine c116_341 (v_fs1_6 := f) HC.1 rfl rfl ?_
        rw [show hup (mC h M kn (f, u, i, v, j) ms kz) M (.inr (9, ((((((mFs M kn (f, u, i, v, j) ms kz).set 6 (.int (nI (f + 1)))).set 7 (.int (nI 0))).set 8 (.int (nI 0))).set 9 (.int (nI 0))).set 10 (.int (nI 0))))) = mC h M kn (f + 1, 0, 0, 0, 0) ms kz from hup_hup]
        exact nx _ (by simp only [curM]; omega) (by unfold curB; simp only; omega) (rem_f r)
      have wayU : u < fl P f → wl P f u ≤ i → ip sc (ipC sc (d + 3)) 116 0 0 Q 310 [some (.ref M), some (.int (nI p)), o2] [] (mC h M kn (f, u, i, v, j) ms kz) z 0 0 := by
        intro r r2
        refine c116_310 (v_fs1_7 := u) HC.1 rfl rfl ?_
        rw [show hup (mC h M kn (f, u, i, v, j) ms kz) M (.inr (9, (((((mFs M kn (f, u, i, v, j) ms kz).set 7 (.int (nI (u + 1)))).set 8 (.int (nI 0))).set 9 (.int (nI (u + 1)))).set 10 (.int (nI 0))))) = mC h M kn (f, u + 1, 0, u + 1, 0) ms kz from hup_hup]
        exact nx _ (by simp only [curM]; omega) (by unfold curB; simp only; omega) (rem_u r2)
      have third : (fl P f ≤ u ∨ wl P f u ≤ i) → ip sc (ipC sc (d + 3)) 116 0 0 Q 289 [some (.ref M), some (.int (nI p)), o2] [] (mC h M kn (f, u, i, v, j) ms kz) z 0 0 := by
        intro r
        exact c116_289 (v_fs1_6 := f) (v_fs1_7 := u) HC.1 rfl HC.2.1 rfl HC.2.2 (by omega) (by decide) hF (by omega) (by omega) (fun r2 => wayF r2) (fun r2 => wayU (by omega) (by omega))
      have second : (fl P f ≤ u ∨ wl P f u ≤ i ∨ fl P f ≤ v) → ip sc (ipC sc (d + 3)) 116 0 0 Q 219 [some (.ref M), some (.int (nI p)), o2] [] (mC h M kn (f, u, i, v, j) ms kz) z 0 0 := by
        intro r
        refine c116_219 (v_fs1_6 := f) (v_fs1_7 := u) HC.1 rfl HC.2.1 rfl HC.2.2 (by omega) (by decide) hF (by omega) (by omega) (fun r2 => third (Or.inl r2)) (fun r2 => ?_)
        refine c116_240 (v_fs1_6 := f) (v_fs1_7 := u) (v_fs1_8 := i) HC.1 rfl rfl rfl (Nat.zero_le _) (Nat.zero_le _) (t_sizeOf HC HR hp (by omega) (by omega)) (kI ?_)
        refine c116_257 (by omega) (by omega) (fun r3 => third (Or.inr r3)) (fun r3 => ?_)
        refine c116_260 (v_fs1_7 := u) (v_fs1_8 := i) HC.1 rfl rfl rfl ?_
        rw [show hup (mC h M kn (f, u, i, v, j) ms kz) M (.inr (9, ((((mFs M kn (f, u, i, v, j) ms kz).set 8 (.int (nI (i + 1)))).set 9 (.int (nI u))).set 10 (.int (nI (i + 1)))))) = mC h M kn (f, u, i + 1, u, i + 1) ms kz from hup_hup]
        exact nx _ (by simp only [curM]; omega) (by unfold curB; simp only; omega) (rem_i (by omega) (by omega))
      refine c116_139 (v_fs1_6 := f) (v_fs1_7 := u) HC.1 rfl HC.2.1 rfl HC.2.2 (by omega) (by decide) hF (by omega) (by omega) (fun r2 => second (Or.inl r2)) (fun r2 => ?_)
      refine c116_160 (v_fs1_6 := f) (v_fs1_7 := u) (v_fs1_8 := i) HC.1 rfl rfl rfl (Nat.zero_le _) (Nat.zero_le _) (t_sizeOf HC HR hp (by omega) (by omega)) (kI ?_)
      refine c116_177 (by omega) (by omega) (fun r3 => second (Or.inr (Or.inl r3))) (fun r3 => ?_)
      refine c116_180 (v_fs1_6 := f) (v_fs1_9 := v) HC.1 rfl HC.2.1 rfl HC.2.2 (by omega) (by decide) hF (by omega) (by omega) (fun r4 => second (Or.inr (Or.inr r4))) (fun r4 => ?_)
      refine c116_201 (v_fs1_9 := v) HC.1 rfl rfl ?_
      rw [show hup (mC h M kn (f, u, i, v, j) ms kz) M (.inr (9, (((mFs M kn (f, u, i, v, j) ms kz).set 9 (.int (nI (v + 1)))).set 10 (.int (nI 0))))) = mC h M kn (f, u, i, v + 1, 0) ms kz from hup_hup]
      exact nx _ (by simp only [curM]; omega) (by unfold curB; simp only; omega) (rem_v (by omega) (by omega))
end REF

/-! nim-worths -/
theorem mem_fm {α : Type} {f : Nat → List α} {v n k : Nat} {t : α} (h1 : v ≤ k) (h2 : k < n) (h : t ∈ f k) : t ∈ ((List.range' v (n - v)).map f).flatten := List.mem_flatten.mpr ⟨f k, List.mem_map.mpr ⟨k, by rw [List.mem_range']; exact ⟨k - v, by omega, by omega⟩, rfl⟩, h⟩
theorem mem_seqJ {f u i v j n k : Nat} (h1 : j ≤ k) (h2 : k < n) : (f, u, i, v, k) ∈ seqJ f u i v j n := List.mem_map.mpr ⟨k, by rw [List.mem_range']; exact ⟨k - j, by omega, by omega⟩, rfl⟩
theorem legal_rem {P : PosT} {f u i v j s : Nat} (h : legal P f u i v j s) : (f, u, i, v, j) ∈ prs P cur0 := by
  obtain ⟨h1, h2, h3, h4, h5⟩ := h
  obtain ⟨t1, t2, t3, t4, t5⟩ := of_decide_eq_true h1
  simp only at t1 t2 t3 t4 t5
  unfold prs
  refine List.mem_filter.mpr ⟨?_, h4⟩
  rw [rem0_F]
  refine mem_fm (Nat.zero_le _) t1 (mem_fm (Nat.zero_le _) t2 (mem_fm (Nat.zero_le _) t3 ?_))
  by_cases e : u = v
  · subst e
    exact List.mem_append_left _ (mem_seqJ (h3 rfl) t5)
  · exact List.mem_append_right _ (mem_fm (by omega) t4 (mem_seqJ (Nat.zero_le _) t5))
theorem legal_mvs {P : PosT} {f u i v j s : Nat} (h : legal P f u i v j s) : ((f, u, i, v, j), s) ∈ mvs P := by
  rw [mvs_prs]
  refine List.mem_flatten.mpr ⟨sdL P (f, u, i, v, j), List.mem_map.mpr ⟨_, legal_rem h, rfl⟩, List.mem_map.mpr ⟨s, ?_, rfl⟩⟩
  rw [List.mem_range']
  exact ⟨s, h.2.2.2.2, by omega⟩
def mexA (l : List Nat) : Nat → Nat → Nat
  | 0, k => k
  | n + 1, k => if k ∈ l then mexA l n (k + 1) else k
def mex (l : List Nat) : Nat := mexA l (l.foldr max 0 + 1) 0
theorem le_fmax {l : List Nat} {a : Nat} (h : a ∈ l) : a ≤ l.foldr max 0 := by
  induction l with
  | nil => cases h
  | cons b l ih =>
    rw [List.foldr_cons]
    rcases List.mem_cons.mp h with rfl | h
    · omega
    · have := ih h
      omega
theorem mexA_spec {l : List Nat} : ∀ n k, l.foldr max 0 < n + k → mexA l n k ∉ l ∧ k ≤ mexA l n k ∧ ∀ a, k ≤ a → a < mexA l n k → a ∈ l
  | 0, k, h => by
    refine ⟨fun q => ?_, Nat.le_refl _, fun a h1 h2 => ?_⟩
    · have := le_fmax q
      unfold mexA at this
      omega
    · unfold mexA at h2
      omega
  | n + 1, k, h => by
    unfold mexA
    by_cases e : k ∈ l
    · rw [if_pos e]
      obtain ⟨h1, h2, h3⟩ := mexA_spec (l := l) n (k + 1) (by omega)
      refine ⟨h1, by omega, fun a h4 h5 => ?_⟩
      by_cases q : a = k
      · subst q
        exact e
      · exact h3 a (by omega) h5
    · rw [if_neg e]
      exact ⟨e, Nat.le_refl _, fun a h1 h2 => by omega⟩
theorem mex_not {l : List Nat} : mex l ∉ l := (mexA_spec _ 0 (by omega)).1
theorem mex_lt {l : List Nat} {a : Nat} (h : a < mex l) : a ∈ l := (mexA_spec _ 0 (by omega)).2.2 a (Nat.zero_le _) h
theorem mex_eq {l : List Nat} {m : Nat} (h1 : m ∉ l) (h2 : ∀ a, a < m → a ∈ l) : mex l = m := by
  rcases Nat.lt_trichotomy (mex l) m with h | h | h
  · exact absurd (h2 _ h) mex_not
  · exact h
  · exact absurd (mex_lt h) h1
theorem mex_congr {l l2 : List Nat} (h : ∀ a, a ∈ l ↔ a ∈ l2) : mex l = mex l2 := mex_eq (fun q => mex_not ((h _).mp q)) fun a q => (h a).mpr (mex_lt q)
def mvD (P : PosT) (m : MvT) : PosT := doMv P m.1.1 m.1.2.1 m.1.2.2.1 m.1.2.2.2.1 m.1.2.2.2.2 m.2
def nimF : Nat → PosT → Nat
  | 0, _ => 0
  | n + 1, P => mex ((mvs P).map (fun m => nimF n (mvD P m)))
/-- the worths that a move can make -/
theorem nim_opt {n : Nat} {P : PosT} {k : Nat} : k ∈ (mvs P).map (fun m => nimF n (mvD P m)) ↔ ∃ f u i v j s, legal P f u i v j s ∧ nimF n (doMv P f u i v j s) = k := by
  rw [List.mem_map]
  constructor
  · rintro ⟨⟨⟨f, u, i, v, j⟩, s⟩, h1, h2⟩
    exact ⟨f, u, i, v, j, s, mvs_legal h1, h2⟩
  · rintro ⟨f, u, i, v, j, s, h1, h2⟩
    exact ⟨((f, u, i, v, j), s), legal_mvs h1, h2⟩
theorem vld_mv {P : PosT} {f u i v j s : Nat} (hv : vld P) (h : legal P f u i v j s) : vld (doMv P f u i v j s) := ⟨posOK_mv h hv.2.1 hv.1, lone_mv h hv.2.1 hv.1, occ_mv h hv.2.1 hv.1 hv.2.2⟩
theorem cM_mov {L : List Nat} {F : List (List Nat)} {a b : Nat} (h : cM L a b = true) (ha : a ∈ F.flatten) (hb : b ∈ F.flatten) : mov L F = true := by
  obtain ⟨h1, h2, h3⟩ := cM_ab h
  refine mov_iff.mpr ⟨a, b, ha, hb, lvd_0 h2, lvd_0 h3, ?_⟩
  by_cases e : a = b
  · right
    have := h1 e
    have hl : a < L.length := Nat.lt_of_not_le fun q => by rw [getD_out q] at h2; omega
    rw [List.getD_eq_getElem?_getD, List.getElem?_eq_getElem hl] at this ⊢
    exact this
  · exact Or.inl e
theorem RR_step {P Q : PosT} {f u i v j s : Nat} (hP : vld P) (hQ : vld Q) (he : P.1 = Q.1) (h : RR P.1 P.2 Q.2) (hL : legal P f u i v j s) : ∃ f2 u2 i2 v2 j2 s2, legal Q f2 u2 i2 v2 j2 s2 ∧ (doMv P f u i v j s).1 = (doMv Q f2 u2 i2 v2 j2 s2).1 ∧ RR (doMv P f u i v j s).1 (doMv P f u i v j s).2 (doMv Q f2 u2 i2 v2 j2 s2).2 := by
  obtain ⟨F, O, a, b, Fs, h1, h2, h3, h4, h5, h6, h7⟩ := mv_sound hL hP
  obtain ⟨c1, c2, c3⟩ := cM_ab h2
  obtain ⟨G, U, h8, h9, h10⟩ := h.at h1 (cM_mov h2 h3 h4)
  have hG : ∃ Gs, fdm P.1.length a b G Gs ∧ RR (lvA P.1 a b) Fs Gs := by
    rcases h9 with h9 | h9
    · exact fmv_like lvA_lvd lvA_c (lvd_0 c2) (lvd_0 c3) h9 h6
    · obtain ⟨Gs, k1, k2⟩ := fmv_like lvA_lvd lvA_c (lvd_0 c2) (lvd_0 c3) h9 h6
      obtain ⟨Gs2, k3, k4⟩ := fmv_mir lvA_c k1
      exact ⟨Gs2, k3, k2.trans k4⟩
  obtain ⟨Gs, k1, k2⟩ := hG
  obtain ⟨f2, u2, i2, v2, j2, s2, k3, k4, k5⟩ := mv_whole h8 hQ.2.1 (he ▸ h2) (he ▸ k1)
  refine ⟨f2, u2, i2, v2, j2, s2, k3, by rw [h5, k4, he], ?_⟩
  rw [h5]
  refine h7.trans ((RR.app k2 (h10.mono fun _ => lvA_le1)).trans ?_)
  rw [he]
  exact k5.symm
theorem nim_RR : ∀ n {P Q : PosT}, vld P → vld Q → P.1 = Q.1 → RR P.1 P.2 Q.2 → nimF n P = nimF n Q
  | 0, _, _, _, _, _, _ => rfl
  | n + 1, P, Q, hP, hQ, he, h => by
    unfold nimF
    refine mex_congr fun k => ?_
    rw [nim_opt, nim_opt]
    constructor
    · rintro ⟨f, u, i, v, j, s, h1, h2⟩
      obtain ⟨f2, u2, i2, v2, j2, s2, h3, h4, h5⟩ := RR_step hP hQ he h h1
      refine ⟨f2, u2, i2, v2, j2, s2, h3, ?_⟩
      rw [← h2]
      exact (nim_RR n (vld_mv hP h1) (vld_mv hQ h3) h4 h5).symm
    · rintro ⟨f, u, i, v, j, s, h1, h2⟩
      obtain ⟨f2, u2, i2, v2, j2, s2, h3, h4, h5⟩ := RR_step hQ hP he.symm (he ▸ h.symm) h1
      refine ⟨f2, u2, i2, v2, j2, s2, h3, ?_⟩
      rw [← h2]
      exact (nim_RR n (vld_mv hQ h1) (vld_mv hP h3) h4 h5).symm
theorem mv_sum {P : PosT} {f u i v j s : Nat} (h : legal P f u i v j s) : (doMv P f u i v j s).1.sum + 1 = P.1.sum := by
  obtain ⟨Fd, x, y, a, b, h1, h2, h3, h4, h5, h6⟩ := legal_at h
  rw [doMv_1 h1 h2 h3 h4 h5]
  exact lvA_sum h6
theorem nim_le : ∀ n {P : PosT}, nimF n P ≤ P.1.sum
  | 0, _ => Nat.zero_le _
  | n + 1, P => by
    refine Nat.le_of_not_lt fun q => ?_
    unfold nimF at q
    obtain ⟨f, u, i, v, j, s, h1, h2⟩ := nim_opt.mp (mex_lt q)
    have h3 := mv_sum h1
    have h4 := nim_le n (P := doMv P f u i v j s)
    omega
/-- more than the lives' number of steps is never needed -/
theorem nim_fuel : ∀ n m {P : PosT}, P.1.sum ≤ n → P.1.sum ≤ m → nimF n P = nimF m P
  | 0, m, P, h1, h2 => by
    have := nim_le m (P := P)
    have e : nimF 0 P = 0 := rfl
    omega
  | n + 1, 0, P, h1, h2 => by
    have := nim_le (n + 1) (P := P)
    have e : nimF 0 P = 0 := rfl
    omega
  | n + 1, m + 1, P, h1, h2 => by
    unfold nimF
    refine mex_congr fun k => ?_
    rw [nim_opt, nim_opt]
    constructor
    · rintro ⟨f, u, i, v, j, s, h3, h4⟩
      have := mv_sum h3
      exact ⟨f, u, i, v, j, s, h3, by rw [← h4]; exact (nim_fuel n m (by omega) (by omega)).symm⟩
    · rintro ⟨f, u, i, v, j, s, h3, h4⟩
      have := mv_sum h3
      exact ⟨f, u, i, v, j, s, h3, by rw [← h4]; exact nim_fuel n m (by omega) (by omega)⟩
def val (P : PosT) : Nat := nimF P.1.sum P
theorem val_at {n : Nat} {P : PosT} (h : P.1.sum ≤ n) : nimF n P = val P := nim_fuel _ _ h (Nat.le_refl _)
theorem val_RR {P Q : PosT} (hP : vld P) (hQ : vld Q) (he : P.1 = Q.1) (h : RR P.1 P.2 Q.2) : val P = val Q := by
  unfold val
  rw [← he]
  exact nim_RR _ hP hQ he h
theorem val_le {P : PosT} : val P ≤ P.1.sum := nim_le _
theorem val_not {P : PosT} {f u i v j s : Nat} (h : legal P f u i v j s) : val (doMv P f u i v j s) ≠ val P := by
  intro q
  have h1 := mv_sum h
  have h2 : val P = nimF ((doMv P f u i v j s).1.sum + 1) P := by rw [h1]; rfl
  rw [h2] at q
  unfold nimF at q
  refine mex_not (l := (mvs P).map (fun m => nimF (doMv P f u i v j s).1.sum (mvD P m))) ?_
  rw [← q]
  exact nim_opt.mpr ⟨f, u, i, v, j, s, h, rfl⟩
theorem val_opt {P : PosT} {k : Nat} (h : k < val P) : ∃ f u i v j s, legal P f u i v j s ∧ val (doMv P f u i v j s) = k := by
  unfold val at h
  cases e : P.1.sum with
  | zero =>
    rw [e] at h
    exact absurd h (Nat.not_lt_zero _)
  | succ n =>
    rw [e] at h
    unfold nimF at h
    obtain ⟨f, u, i, v, j, s, h1, h2⟩ := nim_opt.mp (mex_lt h)
    refine ⟨f, u, i, v, j, s, h1, ?_⟩
    have := mv_sum h1
    rw [← h2]
    exact (val_at (by omega)).symm
theorem val_eq {P : PosT} {m : Nat} (h1 : ∀ f u i v j s, legal P f u i v j s → val (doMv P f u i v j s) ≠ m) (h2 : ∀ k, k < m → ∃ f u i v j s, legal P f u i v j s ∧ val (doMv P f u i v j s) = k) : val P = m := by
  rcases Nat.lt_trichotomy (val P) m with h | h | h
  · obtain ⟨f, u, i, v, j, s, h3, h4⟩ := h2 _ h
    exact absurd h4 (val_not h3)
  · exact h
  · obtain ⟨f, u, i, v, j, s, h3, h4⟩ := val_opt h
    exact absurd h4 (h1 _ _ _ _ _ _ h3)
/-- the mex of what the moves make, in THE ORDER -/
theorem val_mex {P : PosT} : val P = mex ((mvs P).map (fun m => val (mvD P m))) := by
  refine val_eq (fun f u i v j s h q => ?_) (fun k h => ?_)
  · refine mex_not (l := (mvs P).map (fun m => val (mvD P m))) ?_
    rw [← q]
    exact List.mem_map.mpr ⟨((f, u, i, v, j), s), legal_mvs h, rfl⟩
  · obtain ⟨⟨⟨f, u, i, v, j⟩, s⟩, h1, h2⟩ := List.mem_map.mp (mex_lt h)
    exact ⟨f, u, i, v, j, s, mvs_legal h1, h2⟩

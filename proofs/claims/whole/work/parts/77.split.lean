/-! the parts of a lean position: their worths add up, their lives too -/
theorem flM_split {v w : Nat} (h : sub w v) : ∀ n, (flM v n).Perm (flM w n ++ flM (v ^^^ (v &&& w)) n)
  | 0 => List.Perm.nil
  | n + 1 => by
    have ih := flM_split h n
    unfold flM
    cases e1 : w.testBit n with
    | true =>
      have e2 := h n e1
      have e3 : (v ^^^ (v &&& w)).testBit n = false := by
        cases q : (v ^^^ (v &&& w)).testBit n with
        | false => rfl
        | true => have := (diff_tb.mp q).2; rw [e1] at this; cases this
      rw [e2, e3]
      simp only [if_true]
      refine (ih.append_right _).trans ?_
      rw [List.append_assoc, if_neg (by simp), List.append_assoc]
      exact List.perm_append_comm.append_left _
    | false =>
      cases e2 : v.testBit n with
      | true =>
        have e3 : (v ^^^ (v &&& w)).testBit n = true := diff_tb.mpr ⟨e2, e1⟩
        rw [e3]
        simp only [if_true]
        rw [if_neg (by simp), ← List.append_assoc]
        exact ih.append_right _
      | false =>
        have e3 : (v ^^^ (v &&& w)).testBit n = false := by
          cases q : (v ^^^ (v &&& w)).testBit n with
          | false => rfl
          | true => have := (diff_tb.mp q).1; rw [e2] at this; cases this
        rw [e3, if_neg (by simp), if_neg (by simp)]
        exact ih
theorem flM_all : ∀ n, flM (2 ^ n - 1) n = List.range n := by
  intro n
  have : ∀ k, k ≤ n → flM (2 ^ n - 1) k = List.range k := by
    intro k
    induction k with
    | zero => exact fun _ => rfl
    | succ k ih =>
      intro hk
      unfold flM
      rw [Nat.testBit_two_pow_sub_one, decide_eq_true (by omega), if_pos rfl, ih (by omega), List.range_succ]
  exact this n (Nat.le_refl _)
theorem flM_zero : ∀ n, flM 0 n = []
  | 0 => rfl
  | n + 1 => by unfold flM; rw [Nat.zero_testBit, if_neg (by simp)]; exact flM_zero n
theorem sM_mem {F : List (List (List Nat))} {l : List Nat} {a : Nat} : a ∈ (sM F l).flatten.flatten ↔ ∃ f ∈ l, a ∈ (F.getD f []).flatten := by
  unfold sM
  constructor
  · intro h
    obtain ⟨x, hx, hax⟩ := List.mem_flatten.mp h
    obtain ⟨X, hX, hxX⟩ := List.mem_flatten.mp hx
    obtain ⟨f, hf, rfl⟩ := List.mem_map.mp hX
    exact ⟨f, hf, List.mem_flatten.mpr ⟨x, hxX, hax⟩⟩
  · rintro ⟨f, hf, h⟩
    obtain ⟨x, hx, hax⟩ := List.mem_flatten.mp h
    exact List.mem_flatten.mpr ⟨x, List.mem_flatten.mpr ⟨_, List.mem_map.mpr ⟨f, hf, rfl⟩, hx⟩, hax⟩
section SP
variable {P : PosT} {tm fi lk : Nat → Int32} {fN lN : Nat → Nat}
/-- a spot of a closed set's field has its first field there, and the other way round -/
theorem cl_spot (S : ptS P.1.length P.2.length (prF P.2 P.2.length) tm fi lk fN lN) {w : Nat} (hc : clsd lN w) {a f : Nat} (hf : f < P.2.length) (ha : a ∈ (P.2.getD f []).flatten) : w.testBit f = true ↔ w.testBit (fN a) = true := by
  obtain ⟨s1, s2, s3, s4, s5, s6, s7, s8, s9⟩ := S
  have hm : (a, f) ∈ prF P.2 P.2.length := prF_mem.mpr ⟨hf, ha⟩
  have hfn := (s3 a _ (s2 a f hm).2).1
  rcases s6 a f hm with q | q
  · rw [q]
  · exact ⟨fun r => hc f r _ q, fun r => hc (fN a) r _ (by rw [s5 (fN a) f hfn hf]; exact q)⟩
theorem cl_apart (S : ptS P.1.length P.2.length (prF P.2 P.2.length) tm fi lk fN lN) {v w : Nat} (hc : clsd lN w) : apart P.1 (sM P.2 (flM w P.2.length)) (sM P.2 (flM (v ^^^ (v &&& w)) P.2.length)) := by
  intro a h1 h2
  exfalso
  obtain ⟨f, hf, ha⟩ := sM_mem.mp h1
  obtain ⟨g, hg, hb⟩ := sM_mem.mp h2
  obtain ⟨f1, f2⟩ := flM_mem.mp hf
  obtain ⟨g1, g2⟩ := flM_mem.mp hg
  have k1 := (cl_spot S hc f1 ha).mp f2
  have k2 := (cl_spot S hc g1 hb).mpr k1
  rw [(diff_tb.mp g2).2] at k2
  cases k2
theorem vld_sM (hv : vld P) {l : List Nat} (h1 : l.Nodup) (h2 : ∀ f ∈ l, f < P.2.length) : vld (P.1, sM P.2 l) := vld_sub hv rfl (sM_sub h1 h2)
theorem val_split (hv : vld P) (hs : P.1.sum < 16) (S : ptS P.1.length P.2.length (prF P.2 P.2.length) tm fi lk fN lN) {v w : Nat} (hw : sub w v) (hc : clsd lN w) : val (P.1, sM P.2 (flM v P.2.length)) = val (P.1, sM P.2 (flM w P.2.length)) ^^^ val (P.1, sM P.2 (flM (v ^^^ (v &&& w)) P.2.length)) := by
  have hp := (flM_split hw P.2.length).map (fun f => P.2.getD f [])
  rw [List.map_append] at hp
  have hp : (sM P.2 (flM v P.2.length)).Perm (sM P.2 (flM w P.2.length) ++ sM P.2 (flM (v ^^^ (v &&& w)) P.2.length)) := hp
  have hv1 := vld_sM hv (flM_nodup (w := v)) (fun f hf => (flM_mem.mp hf).1)
  have hv2 : vld (P.1, sM P.2 (flM w P.2.length) ++ sM P.2 (flM (v ^^^ (v &&& w)) P.2.length)) := vld_sub hv1 rfl ⟨[], by rw [List.append_nil]; exact hp⟩
  rw [val_RR hv1 hv2 rfl (.perm hp), val_sum hs hv2 (cl_apart S hc)]
theorem clsd_diff (S : ptS P.1.length P.2.length (prF P.2 P.2.length) tm fi lk fN lN) {v w : Nat} (hv : v < 2 ^ P.2.length) (hcv : clsd lN v) (hc : clsd lN w) : clsd lN (v ^^^ (v &&& w)) := by
  obtain ⟨s1, s2, s3, s4, s5, s6, s7, s8, s9⟩ := S
  intro f hf i hi
  obtain ⟨f1, f2⟩ := diff_tb.mp hf
  have hfl := bit_hi hv f1
  have hiv := hcv f f1 i hi
  have hil := bit_hi hv hiv
  refine diff_tb.mpr ⟨hiv, ?_⟩
  cases e : w.testBit i with
  | false => rfl
  | true =>
    have := hc i e f (by rw [s5 i f hil hfl]; exact hi)
    rw [f2] at this
    cases this
theorem lvM_split {L : List Nat} {pr : List (Nat × Nat)} {v w : Nat} (h : sub w v) : ∀ n, lvM L pr fN v n = lvM L pr fN w n + lvM L pr fN (v ^^^ (v &&& w)) n
  | 0 => rfl
  | n + 1 => by
    have ih := lvM_split (L := L) (pr := pr) h n
    unfold lvM
    rw [ih]
    by_cases e : 0 < pr.countP (fun x => x.1 == n)
    · cases e1 : w.testBit (fN n) with
      | true =>
        have e3 : ¬ (v ^^^ (v &&& w)).testBit (fN n) = true := fun q => by have := (diff_tb.mp q).2; rw [e1] at this; cases this
        rw [if_pos ⟨e, h _ e1⟩, if_pos ⟨e, rfl⟩, if_neg (fun q => e3 q.2)]
        omega
      | false =>
        cases e2 : v.testBit (fN n) with
        | true =>
          have e3 : (v ^^^ (v &&& w)).testBit (fN n) = true := diff_tb.mpr ⟨e2, e1⟩
          rw [if_pos ⟨e, rfl⟩, if_neg (by simp), if_pos ⟨e, e3⟩]
          omega
        | false =>
          have e3 : ¬ (v ^^^ (v &&& w)).testBit (fN n) = true := fun q => by have := (diff_tb.mp q).1; rw [e2] at this; cases this
          have k : ∀ c : Prop, ¬ (c ∧ false = true) := fun c q => Bool.noConfusion q.2
          simp only [k, e3, and_false, if_false]
          omega
    · rw [if_neg (fun q => e q.1), if_neg (fun q => e q.1), if_neg (fun q => e q.1)]
      omega
def sD (L D : List Nat) : Nat → Nat
  | 0 => 0
  | n + 1 => sD L D n + (if n ∈ D then L.getD n 0 else 0)
theorem sD_cons {L D : List Nat} {s : Nat} (hs : s ∉ D) : ∀ n, sD L (s :: D) n = sD L D n + (if s < n then L.getD s 0 else 0)
  | 0 => rfl
  | n + 1 => by
    unfold sD
    rw [sD_cons hs n]
    by_cases e : s = n
    · subst e
      rw [if_neg (by omega : ¬ s < s), if_pos (by simp), if_neg hs, if_pos (by omega)]
    · have hm : (n ∈ s :: D) = (n ∈ D) := propext ⟨fun q => by
        rcases List.mem_cons.mp q with q | q
        · exact absurd q.symm e
        · exact q, fun q => List.mem_cons_of_mem _ q⟩
      have hl : (s < n + 1) = (s < n) := propext ⟨fun q => by omega, fun q => by omega⟩
      simp only [hm, hl]
      omega
theorem sD_sum {L : List Nat} {n : Nat} : ∀ {D : List Nat}, D.Nodup → (∀ s ∈ D, s < n) → (D.map (fun s => L.getD s 0)).sum = sD L D n
  | [], _, _ => by
    have : ∀ n, sD L [] n = 0 := by
      intro n
      induction n with
      | zero => rfl
      | succ n ih => unfold sD; rw [ih, if_neg (by simp)]
    rw [this]
    rfl
  | s :: D, h1, h2 => by
    obtain ⟨k1, k2⟩ := List.nodup_cons.mp h1
    rw [List.map_cons, List.sum_cons, sD_sum k2 fun x hx => h2 x (List.mem_cons_of_mem _ hx), sD_cons k1, if_pos (h2 s (List.mem_cons_self ..))]
    omega
/-- the lives of a closed set are those of its spots -/
theorem lvM_sum (S : ptS P.1.length P.2.length (prF P.2 P.2.length) tm fi lk fN lN) {w : Nat} (hw : w < 2 ^ P.2.length) (hc : clsd lN w) {D : List Nat} (hD : ∀ a, a ∈ D ↔ a ∈ (sM P.2 (flM w P.2.length)).flatten.flatten) : ∀ n, lvM P.1 (prF P.2 P.2.length) fN w n = sD P.1 D n
  | 0 => rfl
  | n + 1 => by
    unfold lvM sD
    rw [lvM_sum S hw hc hD n]
    congr 1
    have : (0 < (prF P.2 P.2.length).countP (fun x => x.1 == n) ∧ w.testBit (fN n) = true) ↔ n ∈ D := by
      rw [hD, sM_mem]
      constructor
      · rintro ⟨k1, k2⟩
        obtain ⟨g, hg⟩ : ∃ g, (n, g) ∈ prF P.2 P.2.length := Classical.byContradiction fun q => by
          have := cnt_pr.mpr fun g hg => q ⟨g, hg⟩
          omega
        obtain ⟨g1, g2⟩ := prF_mem.mp hg
        exact ⟨g, flM_mem.mpr ⟨g1, (cl_spot S hc g1 g2).mpr k2⟩, g2⟩
      · rintro ⟨f, hf, ha⟩
        obtain ⟨f1, f2⟩ := flM_mem.mp hf
        refine ⟨Nat.pos_of_ne_zero fun q => cnt_pr.mp q f (prF_mem.mpr ⟨f1, ha⟩), (cl_spot S hc f1 ha).mp f2⟩
    by_cases e : n ∈ D
    · rw [if_pos (this.mpr e), if_pos e]
    · rw [if_neg fun q => e (this.mp q), if_neg e]
theorem sD_le {L D : List Nat} : ∀ n, n ≤ L.length → sD L D n ≤ (L.take n).sum
  | 0, _ => Nat.zero_le _
  | n + 1, h => by
    have ih := sD_le (L := L) (D := D) n (by omega)
    unfold sD
    rw [List.take_succ, gD (d := 0) (by omega : n < L.length), List.sum_append]
    simp only [Option.toList_some, List.sum_cons, List.sum_nil]
    split <;> omega
theorem sD_ge2 {L D : List Nat} {a c : Nat} (ha : a ∈ D) (hc : c ∈ D) (hne : a ≠ c) : ∀ n, a < n → c < n → L.getD a 0 + L.getD c 0 ≤ sD L D n
  | 0, h, _ => absurd h (Nat.not_lt_zero _)
  | n + 1, h1, h2 => by
    have one : ∀ (b : Nat), b ∈ D → ∀ n, b < n → L.getD b 0 ≤ sD L D n := by
      intro b hb n
      induction n with
      | zero => exact fun q => absurd q (Nat.not_lt_zero _)
      | succ n ih =>
        intro q
        unfold sD
        by_cases e : b = n
        · subst e; rw [if_pos hb]; omega
        · have := ih (by omega); omega
    unfold sD
    by_cases e : a = n
    · subst e
      rw [if_pos ha]
      have := one c hc a (by omega)
      omega
    · by_cases e2 : c = n
      · subst e2
        rw [if_pos hc]
        have := one a ha c (by omega)
        omega
      · have := sD_ge2 (L := L) ha hc hne n (by omega) (by omega)
        omega
theorem sD_ge1 {L D : List Nat} {b : Nat} (hb : b ∈ D) : ∀ n, b < n → L.getD b 0 ≤ sD L D n
  | 0, q => absurd q (Nat.not_lt_zero _)
  | n + 1, q => by
    unfold sD
    by_cases e : b = n
    · subst e; rw [if_pos hb]; omega
    · have := sD_ge1 hb (L := L) n (by omega); omega
/-- a field that isn't dead has a move -/
theorem cMv_two {L K : List Nat} (h : cMv L K = true) : ∃ a ∈ K, 2 ≤ L.getD a 0 ∨ ∃ c ∈ K, a ≠ c := by
  unfold cMv at h
  obtain ⟨a, ha, q⟩ := List.any_eq_true.mp h
  rw [Bool.or_eq_true, decide_eq_true_eq, decide_eq_true_eq] at q
  refine ⟨a, ha, ?_⟩
  rcases q with q | q
  · exact Or.inl q
  · right
    cases K with
    | nil => cases ha
    | cons c K =>
      refine ⟨c, List.mem_cons_self .., fun r => q ?_⟩
      rw [r]
      rfl
theorem mov_legal {Q : PosT} (hlo : lone Q) (hlv : ∀ a ∈ pC Q, Q.1.getD a 0 ≠ 0) {X : List (List Nat)} (hX : X ∈ Q.2) (hm : cMv Q.1 X.flatten = true) : ∃ f u i v j s, legal Q f u i v j s := by
  obtain ⟨O1, O2, hQ⟩ := List.append_of_mem hX
  have hp : Q.2.Perm (X :: (O1 ++ O2)) := by rw [hQ]; exact List.perm_middle
  have hin : ∀ a ∈ X.flatten, 1 ≤ Q.1.getD a 0 := fun a ha => by
    obtain ⟨x, hx, hax⟩ := List.mem_flatten.mp ha
    have := hlv a (List.mem_flatten.mpr ⟨x, List.mem_flatten.mpr ⟨X, hX, hx⟩, hax⟩)
    omega
  have key : ∃ a b Fs, cM Q.1 a b = true ∧ fdm Q.1.length a b X Fs := by
    obtain ⟨a, ha, h2⟩ := cMv_two hm
    have h1 := hin a ha
    obtain ⟨x, hx, hax⟩ := List.mem_flatten.mp ha
    obtain ⟨p, q, rfl⟩ := List.append_of_mem hax
    obtain ⟨X1, X2, hX2⟩ := List.append_of_mem hx
    have hxp : X.Perm ((p ++ a :: q) :: (X1 ++ X2)) := by rw [hX2]; exact List.perm_middle
    by_cases h3 : 2 ≤ Q.1.getD a 0
    · exact ⟨a, a, _, cM_of (fun _ => h3) h1 h1, Or.inr (Or.inr ⟨_, X1 ++ X2, X1 ++ X2, [], p, q, rfl, hxp, rfl, by rw [List.append_nil], rfl⟩)⟩
    · rcases h2 with h2 | ⟨c, hc, hac⟩
      · exact absurd h2 h3
      · have h4 := hin c hc
        have hcm : cM Q.1 a c = true := cM_of (fun q => absurd q hac) h1 h4
        obtain ⟨y, hy, hcy⟩ := List.mem_flatten.mp hc
        have hy2 : y = p ++ a :: q ∨ y ∈ X1 ++ X2 := by
          have := hxp.subset hy
          rcases List.mem_cons.mp this with r | r
          · exact Or.inl r
          · exact Or.inr r
        rcases hy2 with rfl | hy2
        · have hcq : c ∈ q ++ p := by
            rcases List.mem_append.mp hcy with r | r
            · exact List.mem_append_right _ r
            · rcases List.mem_cons.mp r with r | r
              · exact absurd r.symm hac
              · exact List.mem_append_left _ r
          obtain ⟨s, t, hst⟩ := List.append_of_mem hcq
          exact ⟨a, c, _, hcm, Or.inr (Or.inl ⟨_, X1 ++ X2, X1 ++ X2, [], p, q, s, t, hac, hxp, rfl, hst, by rw [List.append_nil], rfl⟩)⟩
        · obtain ⟨Y1, Y2, hY⟩ := List.append_of_mem hy2
          obtain ⟨s, t, rfl⟩ := List.append_of_mem hcy
          refine ⟨a, c, _, hcm, Or.inl ⟨_, _, Y1 ++ Y2, p, q, s, t, hac, hxp.trans (List.Perm.cons _ ?_), rfl, rfl, rfl⟩⟩
          rw [hY]
          exact List.perm_middle
  obtain ⟨a, b, Fs, h1, h2⟩ := key
  obtain ⟨f, u, i, v, j, s, h3, -⟩ := mv_whole hp hlo h1 h2
  exact ⟨f, u, i, v, j, s, h3⟩
theorem val_two {Q : PosT} (hv : vld Q) (hle : lean Q) (hs : Q.1.sum = 2) (hne : Q.2 ≠ []) : val Q = 1 := by
  have z : ∀ f u i v j s, legal Q f u i v j s → val (doMv Q f u i v j s) = 0 := fun f u i v j s h => by
    refine val_eq (fun f2 u2 i2 v2 j2 s2 h2 => ?_) (fun k hk => absurd hk (Nat.not_lt_zero _))
    obtain ⟨Fd, x, y, a, b, -, -, -, -, -, h6⟩ := legal_at h2
    have := cM_two h6
    have := mv_sum h
    omega
  refine val_eq (fun f u i v j s h => by rw [z f u i v j s h]; omega) (fun k hk => ?_)
  have : k = 0 := by omega
  subst this
  cases hQ : Q.2 with
  | nil => exact absurd hQ hne
  | cons X l =>
    have hX : X ∈ Q.2 := by rw [hQ]; exact List.mem_cons_self ..
    obtain ⟨f, u, i, v, j, s, h⟩ := mov_legal hv.2.1 hle.1 hX (hle.2 X hX)
    exact ⟨f, u, i, v, j, s, h, z f u i v j s h⟩
end SP

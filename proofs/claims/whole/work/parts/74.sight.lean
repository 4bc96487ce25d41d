/-! the class's Namer: signByFirstSight, encode -/
def ddF (l : List Nat) : List Nat := l.foldl (fun D a => if a ∈ D then D else D ++ [a]) []
theorem ddF_s {l : List Nat} {a : Nat} : ddF (l ++ [a]) = if a ∈ ddF l then ddF l else ddF l ++ [a] := by
  unfold ddF
  rw [List.foldl_append]
  rfl
theorem ddF_ok : ∀ (n : Nat) {l : List Nat}, l.length = n → (ddF l).Nodup ∧ ∀ a, a ∈ ddF l ↔ a ∈ l
  | 0, l, h => by
    have : l = [] := List.length_eq_zero_iff.mp h
    subst this
    exact ⟨List.nodup_nil, fun a => Iff.rfl⟩
  | n + 1, l, h => by
    have hne : l ≠ [] := fun q => by rw [q] at h; simp at h
    obtain ⟨m, b, rfl⟩ : ∃ m b, l = m ++ [b] := ⟨l.dropLast, l.getLast hne, (List.dropLast_concat_getLast hne).symm⟩
    obtain ⟨h1, h2⟩ := ddF_ok n (l := m) (by simpa using h)
    rw [ddF_s]
    split
    · rename_i e
      refine ⟨h1, fun a => ?_⟩
      rw [h2, List.mem_append, List.mem_singleton]
      constructor
      · exact Or.inl
      · rintro (q | q)
        · exact q
        · rw [q]; exact (h2 b).mp e
    · rename_i e
      refine ⟨?_, fun a => ?_⟩
      · rw [List.nodup_append]
        exact ⟨h1, by simp, fun x hx y hy q => e (by rw [List.mem_singleton.mp hy] at q; exact q ▸ hx)⟩
      · rw [List.mem_append, h2, List.mem_append]
theorem ddF_mem {l : List Nat} {a : Nat} : a ∈ ddF l ↔ a ∈ l := (ddF_ok _ rfl).2 a
theorem ddF_nodup {l : List Nat} : (ddF l).Nodup := (ddF_ok _ rfl).1
theorem ddF_pre : ∀ (m : List Nat) {l : List Nat} {a : Nat}, a ∈ ddF l → (ddF (l ++ m)).idxOf a = (ddF l).idxOf a
  | [], l, a, h => by rw [List.append_nil]
  | b :: m, l, a, h => by
    rw [show l ++ b :: m = (l ++ [b]) ++ m by simp]
    have h2 : a ∈ ddF (l ++ [b]) := by
      rw [ddF_mem, List.mem_append]
      exact Or.inl (ddF_mem.mp h)
    rw [ddF_pre m h2, ddF_s]
    split
    · rfl
    · rw [List.idxOf_append, if_pos h]
theorem nodup_sub : ∀ (l m : List Nat), l.Nodup → m.Nodup → (∀ f ∈ l, f ∈ m) → ∃ r, m.Perm (l ++ r) := by
  intro l
  induction l with
  | nil => exact fun m _ _ _ => ⟨m, List.Perm.refl _⟩
  | cons f l ih =>
    intro m n1 n2 hs
    obtain ⟨k1, k2⟩ := List.nodup_cons.mp n1
    obtain ⟨m1, m2, rfl⟩ := List.append_of_mem (hs f (List.mem_cons_self ..))
    have n3 : (f :: (m1 ++ m2)).Nodup := List.perm_middle.nodup_iff.mp n2
    obtain ⟨r, hr⟩ := ih (m1 ++ m2) k2 (List.nodup_cons.mp n3).2 (fun g hg => by
      have h3 := hs g (List.mem_cons_of_mem _ hg)
      have hne : g ≠ f := fun q => k1 (q ▸ hg)
      rcases List.mem_append.mp h3 with h3 | h3
      · exact List.mem_append_left _ h3
      · rcases List.mem_cons.mp h3 with h3 | h3
        · exact absurd h3 hne
        · exact List.mem_append_right _ h3)
    exact ⟨r, List.perm_middle.trans (hr.cons f)⟩
def ltF (L : List Nat) (tN : Nat → Nat) (a : Nat) : Bool := decide (kdN (L.getD a 0) (tN a) = 0)
def sgn (L : List Nat) (tN : Nat → Nat) (T : List Nat) (a : Nat) : Nat := if kdN (L.getD a 0) (tN a) = 0 then 4 + (ddF (T.filter (ltF L tN))).idxOf a else kdN (L.getD a 0) (tN a)
theorem kdN_le {l t : Nat} : kdN l t ≤ 3 := by
  unfold kdN
  split
  · omega
  · split
    · omega
    · split <;> omega
section NM
variable {sc : ipSc} {d z b pt nr : Nat} {h : HP} {L : List Nat} {tN : Nat → Nat} {sg fr wr so tu wk en : Nat → Int32} {tx : Nat → Int64} {hi lo : Int64}
set_option maxHeartbeats 1000000 in
theorem t_sight {T : List Nat} (H : nmA h b pt sg fr wr tx so tu wk en nr T.length hi lo) (hT : rowL wk 0 T) (hTl : T.length ≤ 100) (hTm : ∀ a ∈ T, a < L.length) (hL : L.length ≤ 31) (hsg : sgOK L tN sg) (hD : (ddF (T.filter (ltF L tN))).length ≤ 11) : ipC sc (d + 1) 18 [.ref b] h z 0 0 (fun o h2 z2 => z2 = z ∧ (o = some (.int (nI 0)) ∨ o = some (.int (nI 1))) ∧ frm b 9 h h2 ∧ ∃ sg2, nmA h2 b pt sg2 fr wr tx so tu wk en nr T.length hi lo ∧ sgOK L tN sg2 ∧ ∀ a ∈ T, sg2 a = nI (sgn L tN T a)) := by
  generalize hQ : (fun (o : Option Value) (h2 : HP) (z2 : Nat) => z2 = z ∧ (o = some (.int (nI 0)) ∨ o = some (.int (nI 1))) ∧ frm b 9 h h2 ∧ ∃ sg2, nmA h2 b pt sg2 fr wr tx so tu wk en nr T.length hi lo ∧ sgOK L tN sg2 ∧ ∀ a ∈ T, sg2 a = nI (sgn L tN T a)) = Q0
  refine ipC_mk [some (.ref b), none, none] rfl (Nat.le_of_ble_eq_true rfl) (c18_0 ?_)
  -- the letters, in the order of the walk
  have loop2 : ∀ (m k : Nat) (h3 : HP) (sg3 : Nat → Int32), k + m = T.length → frm b 9 h h3 → nmA h3 b pt sg3 fr wr tx so tu wk en nr T.length hi lo → (∀ a, a < L.length → kdN (L.getD a 0) (tN a) ≠ 0 → sg3 a = nI (kdN (L.getD a 0) (tN a))) → (∀ a ∈ T, kdN (L.getD a 0) (tN a) = 0 → sg3 a = nI (if a ∈ ddF ((T.take k).filter (ltF L tN)) then 4 + (ddF ((T.take k).filter (ltF L tN))).idxOf a else 0)) → (∀ a, a < L.length → a ∉ T → ∃ s, sg3 a = nI s ∧ s < 16 ∧ (kdN (L.getD a 0) (tN a) = 0 → 4 ≤ s)) → ip sc (ipC sc d) 18 0 0 Q0 47 [some (.ref b), some (.int (nI (4 + (ddF ((T.take k).filter (ltF L tN))).length))), some (.int (nI k))] [] h3 z 0 0 := by
    intro m
    induction m with
    | zero =>
      intro k h3 sg3 hk hf3 H3 a1 a2 a3
      have et : T.take k = T := List.take_of_length_le (by omega)
      rw [et] at a2 ⊢
      have fin : ∀ o, (o = some (.int (nI 0)) ∨ o = some (.int (nI 1))) → Q0 o h3 z := fun o ho => by
        rw [← hQ]
        have hs : ∀ a ∈ T, sg3 a = nI (sgn L tN T a) := fun a ha => by
          unfold sgn
          by_cases e : kdN (L.getD a 0) (tN a) = 0
          · rw [if_pos e, a2 a ha e, if_pos]
            rw [ddF_mem, List.mem_filter]
            exact ⟨ha, decide_eq_true e⟩
          · rw [if_neg e]
            exact a1 a (hTm a ha) e
        refine ⟨rfl, ho, hf3, sg3, H3, fun a ha => ?_, hs⟩
        by_cases q : a ∈ T
        · have hi : (ddF (T.filter (ltF L tN))).idxOf a ≤ (ddF (T.filter (ltF L tN))).length := List.idxOf_le_length
          refine ⟨sgn L tN T a, hs a q, ?_, fun e => ?_, fun e => ?_⟩
          · unfold sgn
            have := kdN_le (l := L.getD a 0) (t := tN a)
            split <;> omega
          · unfold sgn
            rw [if_pos e]; omega
          · unfold sgn
            rw [if_neg e]
        · obtain ⟨s, k1, k2, k3⟩ := a3 a ha q
          by_cases e : kdN (L.getD a 0) (tN a) = 0
          · exact ⟨s, k1, k2, k3, fun r => absurd e r⟩
          · have := kdN_le (l := L.getD a 0) (t := tN a)
            exact ⟨_, a1 a ha e, by omega, fun r => absurd r e, fun _ => rfl⟩
      refine c18_47 (v_fs1_10 := T.length) H3.1 rfl (by omega) (by omega) (fun _ => ?_) (fun r => absurd (by omega) r)
      exact c18_90 (by omega) (fun _ => c18_99 (c18_100 rfl (fin _ (Or.inl rfl)))) (fun _ => c18_95 (c18_100 rfl (fin _ (Or.inr rfl))))
    | succ m ih =>
      intro k h3 sg3 hk hf3 H3 a1 a2 a3
      obtain ⟨a, ha⟩ := gt_some (l := T) (i := k) (by omega)
      have haT := List.mem_of_getElem? ha
      have hal := hTm a haT
      obtain ⟨g0, g1, g2, g3, g4, g5, g6, g7, g8⟩ := id H3
      have et : T.take (k + 1) = T.take k ++ [a] := by rw [List.take_succ, ha]; rfl
      have hDk : (ddF ((T.take k).filter (ltF L tN))).length ≤ 11 := by
        have e1 : T.filter (ltF L tN) = (T.take k).filter (ltF L tN) ++ (T.drop k).filter (ltF L tN) := by rw [← List.filter_append, List.take_append_drop]
        have hsub : ∀ x ∈ ddF ((T.take k).filter (ltF L tN)), x ∈ ddF (T.filter (ltF L tN)) := fun x hx => by
          rw [ddF_mem] at hx ⊢
          rw [e1]
          exact List.mem_append_left _ hx
        obtain ⟨R, hR⟩ : ∃ R, (ddF (T.filter (ltF L tN))).Perm (ddF ((T.take k).filter (ltF L tN)) ++ R) := nodup_sub _ _ ddF_nodup ddF_nodup hsub
        have := hR.length_eq
        rw [List.length_append] at this
        omega
      refine c18_47 (v_fs1_10 := T.length) H3.1 rfl (by omega) (by omega) (fun r => absurd r (by omega)) (fun _ => ?_)
      by_cases e : kdN (L.getD a 0) (tN a) = 0
      · have hf : ((T.take k ++ [a]).filter (ltF L tN)) = (T.take k).filter (ltF L tN) ++ [a] := by
          rw [List.filter_append]
          congr 1
          exact List.filter_cons_of_pos (decide_eq_true e)
        have ds := ddF_s (l := (T.take k).filter (ltF L tN)) (a := a)
        have hsa := a2 a haT e
        by_cases q : a ∈ ddF ((T.take k).filter (ltF L tN))
        · rw [if_pos q] at hsa ds
          have hi : (ddF ((T.take k).filter (ltF L tN))).idxOf a ≤ (ddF ((T.take k).filter (ltF L tN))).length := List.idxOf_le_length
          refine c18_55 g0 rfl rfl g7 (by omega) (by decide) (rowL_at hT ha) g1 (by omega) (by decide) hsa (by omega) (fun _ => c18_84 ?_) (fun r => absurd (by omega) r)
          have := ih (k + 1) h3 sg3 (by omega) hf3 H3 a1 (by rw [et, hf, ds]; exact a2) a3
          rw [et, hf, ds] at this
          exact this
        · rw [if_neg q] at hsa ds
          refine c18_55 g0 rfl rfl g7 (by omega) (by decide) (rowL_at hT ha) g1 (by omega) (by decide) hsa (by omega) (fun r => absurd rfl r) (fun _ => ?_)
          refine c18_69 g0 rfl rfl g7 (by omega) (by decide) (rowL_at hT ha) g1 (by omega) (by decide) rfl (c18_84 ?_)
          have := ih (k + 1) _ (upd sg3 a (nI (4 + (ddF ((T.take k).filter (ltF L tN))).length))) (by omega) (hf3.up (by omega)) ⟨hup_ne (by omega) g0, hup_eq, hup_ne (by omega) g2, hup_ne (by omega) g3, hup_ne (by omega) g4, hup_ne (by omega) g5, hup_ne (by omega) g6, hup_ne (by omega) g7, hup_ne (by omega) g8⟩ (fun x hx ex => ?_) (fun x hx ex => ?_) (fun x hx ex => ?_)
          · rw [et, hf, ds, List.length_append] at this
            exact this
          · rw [pk_un (show x ≠ a from fun r => ex (by rw [r]; exact e))]
            exact a1 x hx ex
          · rw [et, hf, ds]
            by_cases r : x = a
            · subst r
              rw [pk_us, if_pos (by simp), List.idxOf_append, if_neg q]
              simp
            · rw [pk_un r, a2 x hx ex]
              by_cases r2 : x ∈ ddF ((T.take k).filter (ltF L tN))
              · rw [if_pos r2, if_pos (List.mem_append_left _ r2), List.idxOf_append, if_pos r2]
              · rw [if_neg r2, if_neg (by simp [r2, r])]
          · rw [pk_un (show x ≠ a from fun r => ex (by rw [r]; exact haT))]
            exact a3 x hx ex
      · have hf : ((T.take k ++ [a]).filter (ltF L tN)) = (T.take k).filter (ltF L tN) := by
          rw [List.filter_append]
          have : [a].filter (ltF L tN) = [] := List.filter_cons_of_neg (by unfold ltF; rw [decide_eq_true_eq]; exact e)
          rw [this, List.append_nil]
        have := kdN_le (l := L.getD a 0) (t := tN a)
        refine c18_55 g0 rfl rfl g7 (by omega) (by decide) (rowL_at hT ha) g1 (by omega) (by decide) (a1 a hal e) (by omega) (fun _ => c18_84 ?_) (fun r => absurd e r)
        have := ih (k + 1) h3 sg3 (by omega) hf3 H3 a1 (by rw [et, hf]; exact a2) a3
        rw [et, hf] at this
        exact this
  -- their signs are taken away first
  have loop1 : ∀ (m k : Nat) (h3 : HP) (sg3 : Nat → Int32), k + m = T.length → frm b 9 h h3 → nmA h3 b pt sg3 fr wr tx so tu wk en nr T.length hi lo → (∀ a, a < L.length → kdN (L.getD a 0) (tN a) ≠ 0 → sg3 a = nI (kdN (L.getD a 0) (tN a))) → (∀ a, a < L.length → a ∈ T.take k → kdN (L.getD a 0) (tN a) = 0 → sg3 a = nI 0) → (∀ a, a < L.length → a ∉ T.take k → ∃ s, sg3 a = nI s ∧ s < 16 ∧ (kdN (L.getD a 0) (tN a) = 0 → 4 ≤ s)) → ∀ o2, ip sc (ipC sc d) 18 0 0 Q0 2 [some (.ref b), some (.int (nI k)), o2] [] h3 z 0 0 := by
    intro m
    induction m with
    | zero =>
      intro k h3 sg3 hk hf3 H3 a1 a2 a3 o2
      have et : T.take k = T := List.take_of_length_le (by omega)
      rw [et] at a2 a3
      refine c18_2 (v_fs1_10 := T.length) H3.1 rfl (by omega) (by omega) (fun _ => c18_43 ?_) (fun r => absurd (by omega) r)
      have := loop2 T.length 0 h3 sg3 (by omega) hf3 H3 a1 (fun a ha e => by
        rw [a2 a (hTm a ha) ha e]
        rfl) a3
      exact this
    | succ m ih =>
      intro k h3 sg3 hk hf3 H3 a1 a2 a3 o2
      obtain ⟨a, ha⟩ := gt_some (l := T) (i := k) (by omega)
      have haT := List.mem_of_getElem? ha
      have hal := hTm a haT
      obtain ⟨g0, g1, g2, g3, g4, g5, g6, g7, g8⟩ := id H3
      have et : T.take (k + 1) = T.take k ++ [a] := by rw [List.take_succ, ha]; rfl
      have hkl := kdN_le (l := L.getD a 0) (t := tN a)
      -- a letter's sign is taken away, or is away
      have away : (v : Nat) → sg3 a = nI v → v < 16 → kdN (L.getD a 0) (tN a) = 0 → ip sc (ipC sc d) 18 0 0 Q0 10 [some (.ref b), some (.int (nI k)), o2] [] h3 z 0 0 := fun v hv hv16 e => by
        refine c18_10 g0 rfl rfl g7 (by omega) (by decide) (rowL_at hT ha) g1 (by omega) (by decide) hv (by omega) (fun r => c18_37 (ih (k + 1) h3 sg3 (by omega) hf3 H3 a1 (fun x hx hm ex => ?_) (fun x hx hm => ?_) o2)) (fun r => ?_)
        · rw [et] at hm
          by_cases q : x ∈ T.take k
          · exact a2 x hx q ex
          · have hxa : x = a := by
              rcases List.mem_append.mp hm with hm | hm
              · exact absurd hm q
              · exact List.mem_singleton.mp hm
            subst hxa
            obtain ⟨s, s1, s2, s3⟩ := a3 x hx q
            have := s3 ex
            rw [hv] at s1
            have := (nI_eq (by omega) (by omega)).mp s1
            omega
        · exact a3 x hx (fun q => hm (by rw [et]; exact List.mem_append_left _ q))
        · refine c18_25 g0 rfl rfl g7 (by omega) (by decide) (rowL_at hT ha) g1 (by omega) (by decide) rfl (c18_37 (ih (k + 1) _ (upd sg3 a (nI 0)) (by omega) (hf3.up (by omega)) ⟨hup_ne (by omega) g0, hup_eq, hup_ne (by omega) g2, hup_ne (by omega) g3, hup_ne (by omega) g4, hup_ne (by omega) g5, hup_ne (by omega) g6, hup_ne (by omega) g7, hup_ne (by omega) g8⟩ (fun x hx ex => ?_) (fun x hx hm ex => ?_) (fun x hx hm => ?_) o2))
          · rw [pk_un (show x ≠ a from fun r => ex (by rw [r]; exact e))]
            exact a1 x hx ex
          · by_cases q : x = a
            · rw [q, pk_us]
            · rw [pk_un q]
              rw [et] at hm
              rcases List.mem_append.mp hm with hm | hm
              · exact a2 x hx hm ex
              · exact absurd (List.mem_singleton.mp hm) q
          · rw [et] at hm
            rw [pk_un (fun r => hm (by rw [r]; simp))]
            exact a3 x hx (fun q => hm (List.mem_append_left _ q))
      refine c18_2 (v_fs1_10 := T.length) H3.1 rfl (by omega) (by omega) (fun r => absurd r (by omega)) (fun _ => ?_)
      by_cases e : kdN (L.getD a 0) (tN a) = 0
      · by_cases q : a ∈ T.take k
        · exact away 0 (a2 a hal q e) (by omega) e
        · obtain ⟨s, s1, s2, s3⟩ := a3 a hal q
          exact away s s1 s2 e
      · refine c18_10 g0 rfl rfl g7 (by omega) (by decide) (rowL_at hT ha) g1 (by omega) (by decide) (a1 a hal e) (by omega) (fun r => c18_37 (ih (k + 1) h3 sg3 (by omega) hf3 H3 a1 (fun x hx hm ex => ?_) (fun x hx hm => ?_) o2)) (fun r => absurd (by omega) r)
        · rw [et] at hm
          rcases List.mem_append.mp hm with hm | hm
          · exact a2 x hx hm ex
          · exact absurd ((List.mem_singleton.mp hm) ▸ ex) e
        · exact a3 x hx (fun q => hm (by rw [et]; exact List.mem_append_left _ q))
  refine loop1 T.length 0 h sg (by omega) frm.rf H (fun a ha e => ?_) (fun a ha hm => by cases hm) (fun a ha _ => ?_) _
  · obtain ⟨s, s1, s2, s3, s4⟩ := hsg a ha
    rw [s1, s4 e]
  · obtain ⟨s, s1, s2, s3, s4⟩ := hsg a ha
    exact ⟨s, s1, s2, s3⟩
end NM

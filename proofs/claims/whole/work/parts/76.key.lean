/-! a key tells its part -/
abbrev B3 : Type := List (List (List Nat)) × List (List Nat) × List Nat
def st2 (LT : List Nat) (σ : Nat → Nat) (B : B3) (p : Nat × Nat) : B3 := if p.2 = 0 then (B.1, B.2.1, pPut 1 LT B.2.2 (σ p.1)) else if p.2 = 2 then (clF 1 LT B.1 (clW 1 B.2.1 (pPut 1 LT B.2.2 (σ p.1))), [], []) else (B.1, clW 1 B.2.1 (pPut 1 LT B.2.2 (σ p.1)), [])
theorem st2_put {LT : List Nat} {σ : Nat → Nat} {F : List (List (List Nat))} {X : List (List Nat)} : ∀ {x C : List Nat}, (x.zip (List.replicate x.length 0)).foldl (st2 LT σ) (F, X, C) = (F, X, putL 1 LT C (x.map σ))
  | [], C => rfl
  | a :: x, C => by
    rw [List.length_cons, List.replicate_succ, List.zip_cons_cons, List.foldl_cons]
    have e : st2 LT σ (F, X, C) (a, 0) = (F, X, pPut 1 LT C (σ a)) := by unfold st2; rw [if_pos rfl]
    rw [e, st2_put]
    rfl
theorem st2_wall {LT : List Nat} {σ : Nat → Nat} {F : List (List (List Nat))} {X : List (List Nat)} {x : List Nat} (hx : x ≠ []) {e : Nat} (he : e ≠ 0) : (x.zip (List.replicate (x.length - 1) 0 ++ [e])).foldl (st2 LT σ) (F, X, []) = if e = 2 then (clF 1 LT F (clW 1 X (putL 1 LT [] (x.map σ))), [], []) else (F, clW 1 X (putL 1 LT [] (x.map σ)), []) := by
  obtain ⟨m, b, rfl⟩ : ∃ m b, x = m ++ [b] := ⟨x.dropLast, x.getLast hx, (List.dropLast_concat_getLast hx).symm⟩
  rw [show (m ++ [b]).length - 1 = m.length by simp, List.zip_append (by rw [List.length_replicate]), List.foldl_append, st2_put]
  show st2 LT σ (F, X, putL 1 LT [] (m.map σ)) (b, e) = _
  unfold st2
  rw [if_neg he]
  have : putL 1 LT [] ((m ++ [b]).map σ) = pPut 1 LT (putL 1 LT [] (m.map σ)) (σ b) := by
    unfold putL
    rw [List.map_append, List.foldl_append]
    rfl
  rw [this]
theorem eF_len : ∀ {X : List (List Nat)}, (∀ x ∈ X, x ≠ []) → (eF X).length = X.flatten.length
  | [], _ => rfl
  | [x], h => by
    have : 0 < x.length := List.length_pos_iff.mpr (h x (List.mem_cons_self ..))
    show (List.replicate (x.length - 1) 0 ++ [2]).length = _
    simp; omega
  | x :: y :: X, h => by
    have : 0 < x.length := List.length_pos_iff.mpr (h x (List.mem_cons_self ..))
    have ih := eF_len (X := y :: X) fun z hz => h z (List.mem_cons_of_mem _ hz)
    show ((List.replicate (x.length - 1) 0 ++ [1]) ++ eF (y :: X)).length = _
    rw [List.length_append, ih, List.flatten_cons (l := x), List.length_append (as := x)]
    simp only [List.length_append, List.length_replicate, List.length_cons, List.length_nil]
    omega
theorem st2_field {LT : List Nat} {σ : Nat → Nat} {F : List (List (List Nat))} : ∀ {Y X : List (List Nat)}, Y ≠ [] → (∀ x ∈ Y, x ≠ []) → (Y.flatten.zip (eF Y)).foldl (st2 LT σ) (F, X, []) = (clF 1 LT F (lnW 1 LT X (Y.map (List.map σ))), [], [])
  | [], X, h, _ => absurd rfl h
  | [x], X, _, h => by
    show ((([x] : List (List Nat)).flatten).zip (List.replicate (x.length - 1) 0 ++ [2])).foldl (st2 LT σ) (F, X, []) = _
    rw [show ([x] : List (List Nat)).flatten = x by simp, st2_wall (h x (List.mem_cons_self ..)) (by decide), if_pos rfl]
    rfl
  | x :: y :: Y, X, _, h => by
    have hx := h x (List.mem_cons_self ..)
    have hxl : 0 < x.length := List.length_pos_iff.mpr hx
    show ((x :: y :: Y).flatten.zip ((List.replicate (x.length - 1) 0 ++ [1]) ++ eF (y :: Y))).foldl (st2 LT σ) (F, X, []) = _
    rw [List.flatten_cons, List.zip_append (by simp; omega), List.foldl_append, st2_wall hx (by decide), if_neg (by decide), st2_field (by simp) fun z hz => h z (List.mem_cons_of_mem _ hz)]
    rfl
theorem st2_all {LT : List Nat} {σ : Nat → Nat} : ∀ {V F : List (List (List Nat))}, (∀ X ∈ V, X ≠ [] ∧ ∀ x ∈ X, x ≠ []) → (V.flatten.flatten.zip (ends V)).foldl (st2 LT σ) (F, [], []) = (lnP 1 LT F (ren σ V), [], [])
  | [], F, _ => rfl
  | X :: V, F, h => by
    obtain ⟨h1, h2⟩ := h X (List.mem_cons_self ..)
    have e1 : ends (X :: V) = eF X ++ ends V := rfl
    rw [e1, List.flatten_cons, List.flatten_append, List.zip_append (eF_len h2).symm, List.foldl_append, st2_field h1 h2, st2_all fun Y hY => h Y (List.mem_cons_of_mem _ hY)]
    rfl
theorem pre_get {L D E : List Nat} {i : Nat} (h : i < D.length) : (D.map (fun s => L.getD s 0)).getD i 0 = ((D ++ E).map (fun s => L.getD s 0)).getD i 0 := by
  rw [List.getD_eq_getElem?_getD, List.getD_eq_getElem?_getD, List.getElem?_map, List.getElem?_map, List.getElem?_append_left h]
theorem pPut_pre {L D E C : List Nat} {i : Nat} (h : i < D.length) : pPut 1 (D.map (fun s => L.getD s 0)) C i = pPut 1 ((D ++ E).map (fun s => L.getD s 0)) C i := by
  unfold pPut
  rw [pre_get (E := E) h]
theorem any_congr {l : List Nat} {p q : Nat → Bool} (h : ∀ a ∈ l, p a = q a) : l.any p = l.any q := by
  induction l with
  | nil => rfl
  | cons a l ih =>
    rw [List.any_cons, List.any_cons, h a (List.mem_cons_self ..), ih fun b hb => h b (List.mem_cons_of_mem _ hb)]
theorem cMv_pre {L D E K : List Nat} (h : ∀ i ∈ K, i < D.length) : cMv (D.map (fun s => L.getD s 0)) K = cMv ((D ++ E).map (fun s => L.getD s 0)) K := by
  unfold cMv
  exact any_congr fun a ha => by rw [pre_get (E := E) (h a ha)]
theorem clF_pre {L D E : List Nat} {F : List (List (List Nat))} {X : List (List Nat)} (h : ∀ i ∈ X.flatten, i < D.length) : clF 1 (D.map (fun s => L.getD s 0)) F X = clF 1 ((D ++ E).map (fun s => L.getD s 0)) F X := by
  unfold clF
  rw [cMv_pre (E := E) h]
theorem ddF_ex : ∀ (m : List Nat) {l : List Nat}, ∃ E, ddF (l ++ m) = ddF l ++ E
  | [], l => ⟨[], by simp⟩
  | b :: m, l => by
    rw [show l ++ b :: m = (l ++ [b]) ++ m by simp]
    obtain ⟨E, hE⟩ := ddF_ex m (l := l ++ [b])
    rw [hE, ddF_s]
    split
    · exact ⟨E, rfl⟩
    · exact ⟨b :: E, by simp⟩
theorem sgn_inj {L : List Nat} {tN : Nat → Nat} {T : List Nat} {a c : Nat} (ha : a ∈ T) (hc : c ∈ T) (ka : kdN (L.getD a 0) (tN a) = 0) (kc : kdN (L.getD c 0) (tN c) = 0) (h : sgn L tN T a = sgn L tN T c) : a = c := by
  unfold sgn at h
  rw [if_pos ka, if_pos kc] at h
  refine idx_inj (D := ddF (T.filter (ltF L tN))) ?_ (by omega)
  rw [ddF_mem, List.mem_filter]
  exact ⟨ha, decide_eq_true ka⟩
/-- reading a key goes as its walk went -/
theorem dec_walk {L : List Nat} {tN : Nat → Nat} {T : List Nat} (hl : ∀ a ∈ T, 1 ≤ L.getD a 0 ∧ L.getD a 0 ≤ 3) (h1 : ∀ a ∈ T, kdN (L.getD a 0) (tN a) ≠ 0 → T.count a ≤ 1) (h16 : ∀ a ∈ T, sgn L tN T a < 16) : ∀ (q p : List (Nat × Nat)) (B : B3) (ls : Nat → Option Nat), T = p.map Prod.fst ++ q.map Prod.fst → (∀ x ∈ q, x.2 < 4) → (∀ i ∈ B.2.1.flatten, i < (ddF (p.map Prod.fst)).length) → (∀ i ∈ B.2.2, i < (ddF (p.map Prod.fst)).length) → (∀ s, 4 ≤ s → ls s = if (ddF (p.map Prod.fst)).any (fun a => decide (kdN (L.getD a 0) (tN a) = 0 ∧ sgn L tN T a = s)) then ((ddF (p.map Prod.fst)).find? (fun a => decide (kdN (L.getD a 0) (tN a) = 0 ∧ sgn L tN T a = s))).map (fun a => (ddF (p.map Prod.fst)).idxOf a) else none) → ∃ ls2, (q.map (fun x => 4 * sgn L tN T x.1 + x.2)).foldl dcStep (((ddF (p.map Prod.fst)).map (fun s => L.getD s 0), B.1, B.2.1, B.2.2), ls) = (((ddF T).map (fun s => L.getD s 0), (q.foldl (st2 ((ddF T).map (fun s => L.getD s 0)) (fun a => (ddF T).idxOf a)) B)), ls2)
  | [], p, B, ls, hT, _, _, _, _ => by
    rw [List.map_nil, List.append_nil] at hT
    rw [← hT]
    exact ⟨ls, rfl⟩
  | (a, e) :: q, p, B, ls, hT, he, hX, hC, hls => by
    rw [List.map_cons, List.foldl_cons, List.foldl_cons]
    have haT : a ∈ T := by rw [hT]; simp
    have he4 : e < 4 := he (a, e) (List.mem_cons_self ..)
    have h16a := h16 a haT
    obtain ⟨hla, hla3⟩ := hl a haT
    have c1 : (4 * sgn L tN T a + e) / 4 % 16 = sgn L tN T a := by omega
    have c2 : (4 * sgn L tN T a + e) % 4 = e := by omega
    have hTp : T = (p ++ [(a, e)]).map Prod.fst ++ q.map Prod.fst := by rw [hT]; simp
    obtain ⟨E2, hE2⟩ := ddF_ex (q.map Prod.fst) (l := (p ++ [(a, e)]).map Prod.fst)
    rw [← hTp] at hE2
    have hpm : (p ++ [(a, e)]).map Prod.fst = p.map Prod.fst ++ [a] := by simp
    rw [hpm] at hE2
    have hds := ddF_s (l := p.map Prod.fst) (a := a)
    have hkl := kdN_le (l := L.getD a 0) (t := tN a)
    -- the spot
    have hspot : dcSpot (((ddF (p.map Prod.fst)).map (fun s => L.getD s 0), B.1, B.2.1, B.2.2), ls) (sgn L tN T a) = ((ddF T).idxOf a, (ddF (p.map Prod.fst ++ [a])).map (fun s => L.getD s 0), if a ∈ ddF (p.map Prod.fst) then ls else fun x => if x = sgn L tN T a then some (ddF (p.map Prod.fst)).length else ls x) ∧ (a ∈ ddF (p.map Prod.fst) → kdN (L.getD a 0) (tN a) = 0) := by
      have hidx : (ddF T).idxOf a = (ddF (p.map Prod.fst ++ [a])).idxOf a := by
        rw [hTp, hpm]
        exact ddF_pre _ (by rw [ddF_mem]; simp)
      rw [hidx]
      have hnew : a ∉ ddF (p.map Prod.fst) → (ddF (p.map Prod.fst ++ [a])).idxOf a = (ddF (p.map Prod.fst)).length ∧ (ddF (p.map Prod.fst ++ [a])).map (fun s => L.getD s 0) = (ddF (p.map Prod.fst)).map (fun s => L.getD s 0) ++ [L.getD a 0] := fun m => by
        rw [hds, if_neg m, List.idxOf_append, if_neg m, List.map_append]
        simp
      by_cases k : kdN (L.getD a 0) (tN a) = 0
      · have hs4 : 4 ≤ sgn L tN T a := by unfold sgn; rw [if_pos k]; omega
        have hL1 : L.getD a 0 = 1 := by
          unfold kdN at k
          repeat' split at k
          all_goals omega
        have hlife : dcLife (sgn L tN T a) = L.getD a 0 := by
          unfold dcLife
          rw [if_neg (by omega), if_neg (by omega), hL1]
        by_cases m : a ∈ ddF (p.map Prod.fst)
        · refine ⟨?_, fun _ => k⟩
          have hany : (ddF (p.map Prod.fst)).any (fun x => decide (kdN (L.getD x 0) (tN x) = 0 ∧ sgn L tN T x = sgn L tN T a)) = true := List.any_eq_true.mpr ⟨a, m, decide_eq_true ⟨k, rfl⟩⟩
          have hfind : ((ddF (p.map Prod.fst)).find? (fun x => decide (kdN (L.getD x 0) (tN x) = 0 ∧ sgn L tN T x = sgn L tN T a))) = some a := by
            cases hc : (ddF (p.map Prod.fst)).find? (fun x => decide (kdN (L.getD x 0) (tN x) = 0 ∧ sgn L tN T x = sgn L tN T a)) with
            | none =>
              have := List.find?_eq_none.mp hc a m
              exact absurd (decide_eq_true ⟨k, rfl⟩) this
            | some b =>
              have hb := List.find?_some hc
              simp only [decide_eq_true_eq] at hb
              have hbm := List.mem_of_find?_eq_some hc
              have hbT : b ∈ T := by rw [hT]; exact List.mem_append_left _ (ddF_mem.mp hbm)
              rw [sgn_inj hbT haT hb.1 k hb.2]
          have hlsa := hls _ hs4
          rw [if_pos hany, hfind] at hlsa
          unfold dcSpot
          simp only
          rw [if_pos hs4, hlsa, if_pos m, hds, if_pos m]
          rfl
        · refine ⟨?_, fun q => absurd q m⟩
          obtain ⟨n1, n2⟩ := hnew m
          have hany : ¬ (ddF (p.map Prod.fst)).any (fun x => decide (kdN (L.getD x 0) (tN x) = 0 ∧ sgn L tN T x = sgn L tN T a)) = true := fun q => by
            obtain ⟨b, hbm, hb⟩ := List.any_eq_true.mp q
            have hb := of_decide_eq_true hb
            have hbT : b ∈ T := by rw [hT]; exact List.mem_append_left _ (ddF_mem.mp hbm)
            exact m (sgn_inj hbT haT hb.1 k hb.2 ▸ hbm)
          have hlsa := hls _ hs4
          rw [if_neg hany] at hlsa
          rw [n1, n2]
          unfold dcSpot
          simp only
          rw [if_pos hs4, hlsa, if_neg m, hlife]
          simp only [List.length_map]
      · have hcnt := h1 a haT k
        have m : a ∉ ddF (p.map Prod.fst) := fun m => by
          have h3 := List.count_pos_iff.mpr (ddF_mem.mp m)
          have h2 : T.count a = (p.map Prod.fst).count a + (q.map Prod.fst).count a + 1 := by
            rw [hT, List.map_cons, List.count_append, List.count_cons_self]
            omega
          omega
        obtain ⟨n1, n2⟩ := hnew m
        have hs4 : ¬ 4 ≤ sgn L tN T a := by unfold sgn; rw [if_neg k]; omega
        have hlife : dcLife (sgn L tN T a) = L.getD a 0 := by
          unfold sgn
          rw [if_neg k]
          unfold kdN dcLife
          repeat' split
          all_goals omega
        refine ⟨?_, fun q => absurd q m⟩
        rw [n1, n2]
        unfold dcSpot
        simp only
        rw [if_neg hs4, if_neg m, hlife]
        simp only [List.length_map]
    obtain ⟨hspot, hmk⟩ := hspot
    have hD2 : (ddF (p.map Prod.fst)).length ≤ (ddF (p.map Prod.fst ++ [a])).length := by
      rw [hds]
      split
      · omega
      · simp
    have hia : (ddF T).idxOf a < (ddF (p.map Prod.fst ++ [a])).length := by
      have : (ddF T).idxOf a = (ddF (p.map Prod.fst ++ [a])).idxOf a := by
        rw [hTp, hpm]
        exact ddF_pre _ (by rw [ddF_mem]; simp)
      rw [this]
      exact List.idxOf_lt_length_of_mem (by rw [ddF_mem]; simp)
    have hstep : dcStep (((ddF (p.map Prod.fst)).map (fun s => L.getD s 0), B.1, B.2.1, B.2.2), ls) (4 * sgn L tN T a + e) = (((ddF (p.map Prod.fst ++ [a])).map (fun s => L.getD s 0), st2 ((ddF T).map (fun s => L.getD s 0)) (fun a => (ddF T).idxOf a) B (a, e)), if a ∈ ddF (p.map Prod.fst) then ls else fun x => if x = sgn L tN T a then some (ddF (p.map Prod.fst)).length else ls x) := by
      unfold dcStep
      rw [c1, c2, hspot]
      simp only
      rw [hE2] at hia ⊢
      rw [pPut_pre (E := E2) hia]
      unfold dcEnd st2
      simp only
      split
      · rfl
      · split
        · rw [clF_pre (E := E2)]
          intro i hi
          rcases dcW_mem hi with hi | hi
          · have := hX i hi; omega
          · rcases dcP_mem hi with hi | hi
            · have := hC i hi; omega
            · omega
        · rfl
    rw [hstep]
    have := dec_walk hl h1 h16 q (p ++ [(a, e)]) (st2 ((ddF T).map (fun s => L.getD s 0)) (fun a => (ddF T).idxOf a) B (a, e)) (if a ∈ ddF (p.map Prod.fst) then ls else fun x => if x = sgn L tN T a then some (ddF (p.map Prod.fst)).length else ls x) hTp (fun x hx => he x (List.mem_cons_of_mem _ hx)) ?_ ?_ ?_
    · rw [hpm] at this
      exact this
    · rw [hpm]
      unfold st2
      simp only
      split
      · intro i hi; have := hX i hi; omega
      · split
        · intro i hi; cases hi
        · intro i hi
          rcases dcW_mem hi with hi | hi
          · have := hX i hi; omega
          · rcases dcP_mem hi with hi | hi
            · have := hC i hi; omega
            · omega
    · rw [hpm]
      unfold st2
      simp only
      split
      · intro i hi
        rcases dcP_mem hi with hi | hi
        · have := hC i hi; omega
        · omega
      · split <;> (intro i hi; cases hi)
    · rw [hpm]
      intro s hs
      rw [hds]
      by_cases m : a ∈ ddF (p.map Prod.fst)
      · rw [if_pos m, if_pos m]
        exact hls s hs
      · rw [if_neg m, if_neg m]
        have hlss := hls s hs
        show (if s = sgn L tN T a then some (ddF (p.map Prod.fst)).length else ls s) = _
        rw [List.any_append, List.find?_append]
        by_cases q2 : s = sgn L tN T a
        · have k : kdN (L.getD a 0) (tN a) = 0 := by
            by_cases k : kdN (L.getD a 0) (tN a) = 0
            · exact k
            · exfalso
              have : sgn L tN T a ≤ 3 := by unfold sgn; rw [if_neg k]; omega
              omega
          have hno : ∀ b ∈ ddF (p.map Prod.fst), ¬ decide (kdN (L.getD b 0) (tN b) = 0 ∧ sgn L tN T b = s) = true := fun b hbm hb => by
            have hb := of_decide_eq_true hb
            have hbT : b ∈ T := by rw [hT]; exact List.mem_append_left _ (ddF_mem.mp hbm)
            exact m (sgn_inj hbT haT hb.1 k (hb.2.trans q2) ▸ hbm)
          have hfn : (ddF (p.map Prod.fst)).find? (fun a => decide (kdN (L.getD a 0) (tN a) = 0 ∧ sgn L tN T a = s)) = none := List.find?_eq_none.mpr hno
          have h1a : [a].any (fun a => decide (kdN (L.getD a 0) (tN a) = 0 ∧ sgn L tN T a = s)) = true := by rw [List.any_cons, decide_eq_true ⟨k, q2.symm⟩]; rfl
          have h2a : [a].find? (fun a => decide (kdN (L.getD a 0) (tN a) = 0 ∧ sgn L tN T a = s)) = some a := by rw [List.find?_cons, decide_eq_true ⟨k, q2.symm⟩]
          rw [if_pos q2, h1a, Bool.or_true, if_pos rfl, hfn, h2a]
          simp only [Option.none_or, Option.map_some]
          rw [List.idxOf_append, if_neg m]
          simp
        · rw [if_neg q2, hlss]
          have h1a : [a].any (fun a => decide (kdN (L.getD a 0) (tN a) = 0 ∧ sgn L tN T a = s)) = false := by
            rw [List.any_cons, List.any_nil, Bool.or_false]
            exact decide_eq_false fun r => q2 r.2.symm
          rw [h1a, Bool.or_false]
          by_cases q3 : (ddF (p.map Prod.fst)).any (fun a => decide (kdN (L.getD a 0) (tN a) = 0 ∧ sgn L tN T a = s)) = true
          · rw [if_pos q3, if_pos q3]
            cases hc : (ddF (p.map Prod.fst)).find? (fun a => decide (kdN (L.getD a 0) (tN a) = 0 ∧ sgn L tN T a = s)) with
            | none =>
              obtain ⟨b, hbm, hb⟩ := List.any_eq_true.mp q3
              exact absurd hb (List.find?_eq_none.mp hc b hbm)
            | some b =>
              have hbm := List.mem_of_find?_eq_some hc
              simp only [Option.some_or, Option.map_some]
              rw [List.idxOf_append, if_pos hbm]
          · rw [if_neg q3, if_neg q3]
theorem zw_map {σ : Nat → Nat} : ∀ {T E : List Nat}, kcL σ T E = (T.zip E).map (fun x => 4 * σ x.1 + x.2)
  | [], _ => by simp [kcL]
  | _ :: _, [] => by simp [kcL]
  | a :: T, e :: E => by
    have := zw_map (σ := σ) (T := T) (E := E)
    unfold kcL at this ⊢
    rw [List.zipWith_cons_cons, List.zip_cons_cons, List.map_cons, this]
theorem zip_fst : ∀ {T E : List Nat}, T.length = E.length → (T.zip E).map Prod.fst = T
  | [], _, _ => by simp
  | _ :: _, [], h => by simp at h
  | a :: T, e :: E, h => by
    rw [List.zip_cons_cons, List.map_cons, zip_fst (by simpa using h)]
/-- the key of a walked part, read back -/
theorem dcd_key {L : List Nat} {tN : Nat → Nat} {V : List (List (List Nat))} (hV : ∀ X ∈ V, X ≠ [] ∧ ∀ x ∈ X, x ≠ []) (hl : ∀ a ∈ V.flatten.flatten, 1 ≤ L.getD a 0 ∧ L.getD a 0 ≤ 3) (h1 : ∀ a ∈ V.flatten.flatten, kdN (L.getD a 0) (tN a) ≠ 0 → V.flatten.flatten.count a ≤ 1) (h16 : ∀ a ∈ V.flatten.flatten, sgn L tN V.flatten.flatten a < 16) : dcd (kyC L tN V) = ((cnP L (ddF V.flatten.flatten) V).1, lnP 1 (cnP L (ddF V.flatten.flatten) V).1 [] (cnP L (ddF V.flatten.flatten) V).2, [], []) := by
  obtain ⟨el, em⟩ := ends_len (V := V) fun X hX => (hV X hX).2
  have hz := zip_fst el.symm
  obtain ⟨ls2, h2⟩ := dec_walk (tN := tN) hl h1 h16 (V.flatten.flatten.zip (ends V)) [] ([], [], []) (fun _ => none) (by rw [hz]; rfl) (fun x hx => by
    have := em x.2 (List.of_mem_zip hx).2
    omega) (fun i hi => by cases hi) (fun i hi => by cases hi) (fun s _ => rfl)
  unfold dcd kyC
  rw [zw_map]
  have e0 : ddF (([] : List (Nat × Nat)).map Prod.fst) = [] := rfl
  rw [e0, List.map_nil] at h2
  rw [h2, st2_all hV]
  rfl

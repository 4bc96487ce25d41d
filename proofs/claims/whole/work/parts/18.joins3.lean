/-! the reference makes a move: joins -/
def lvA (lv : List Nat) (a b : Nat) : List Nat := lv.mapIdx (fun s l => l - (if s = a then 1 else 0) - (if s = b then 1 else 0)) ++ [1]
def half1 (Fd : List (List Nat)) (u i j c side : Nat) : List (List Nat) := (((Fd.getD u []).drop i).take (j + 1 - i) ++ [c]) :: othA side 0 u Fd 0 0
def half2 (lv : List Nat) (Fd : List (List Nat)) (u i j c side : Nat) : List (List Nat) := ((if i = j then rnd lv (Fd.getD u []) i else (Fd.getD u []).drop j ++ (Fd.getD u []).take (i + 1)) ++ [c]) :: othA side 1 u Fd 0 0
def mrg (lv : List Nat) (Fd : List (List Nat)) (u i v j c : Nat) : List (List Nat) := mrgA u v (rnd lv (Fd.getD u []) i ++ [c] ++ rnd lv (Fd.getD v []) j ++ [c]) Fd 0
/-- the position behind a move -/
def doMv (P : PosT) (f u i v j side : Nat) : PosT :=
  (lvA P.1 (((P.2.getD f []).getD u []).getD i 0) (((P.2.getD f []).getD v []).getD j 0),
   if u = v then P.2.set f (half1 (P.2.getD f []) u i j P.1.length side) ++ [half2 P.1 (P.2.getD f []) u i j P.1.length side] else P.2.set f (mrg P.1 (P.2.getD f []) u i v j P.1.length))
theorem getD_of {α : Type} {l : List α} {k : Nat} {x d : α} (h : l[k]? = some x) : l.getD k d = x := by rw [List.getD_eq_getElem?_getD, h]; rfl
theorem take_fl {T : List (List (List Nat))} {g : Nat} {Y : List (List Nat)} (h : T[g]? = some Y) : T.take (g + 1) = T.take g ++ [Y] ∧ (T.take g).length = g ∧ (T.take g).flatten.length + Y.length ≤ T.flatten.length ∧ (T.take g).flatten.flatten.length + Y.flatten.length ≤ T.flatten.flatten.length := by
  have hl := lt_some h
  have e : T = T.take g ++ (Y :: T.drop (g + 1)) := by rw [← drop_cons h, List.take_append_drop]
  refine ⟨by rw [List.take_succ, h]; rfl, by rw [List.length_take]; omega, ?_, ?_⟩
  · have e2 := congrArg (fun l => l.flatten.length) e
    simp only [List.flatten_append, List.length_append, List.flatten_cons] at e2
    omega
  · have e2 := congrArg (fun l => l.flatten.flatten.length) e
    simp only [List.flatten_append, List.length_append, List.flatten_cons] at e2
    omega
section REF
variable {sc : ipSc} {d z M p q : Nat} {h : HP} {fs : List Value} {al a1 : Nat → Int32} {P : PosT}
theorem lvA_at {lv : List Nat} {s l a b : Nat} (h : lv[s]? = some l) : (lv.mapIdx (fun s l => l - (if s = a then 1 else 0) - (if s = b then 1 else 0)))[s]? = some (l - (if s = a then 1 else 0) - (if s = b then 1 else 0)) := by rw [List.getElem?_mapIdx, h]; rfl
set_option maxHeartbeats 1000000 in
theorem t_joins (H : mdA h M fs al) (HP0 : rowIs al p P) (hd : far p q) {f u i v j side a b la lb : Nat} {Fd : List (List Nat)} {x y : List Nat} (hf : P.2[f]? = some Fd) (hu : Fd[u]? = some x) (hi : x[i]? = some a) (hv : Fd[v]? = some y) (hj : y[j]? = some b) (hij : u = v → i ≤ j) (ha : P.1[a]? = some la) (hb : P.1[b]? = some lb) (hla : la ≤ 3) (hlb : lb ≤ 3) (hc1 : (if a = b then 1 else 0) < la) (hc2 : 0 < lb) (hl : Fd.length ≤ 31) (hs : side < 2147483648) (hB : rowB (doMv P f u i v j side)) : ipC sc (d + 5) 108 [.ref M, .int (nI p), .int (nI q), .int (nI f), .int (nI u), .int (nI i), .int (nI v), .int (nI j), .int (nI side)] h z 0 0 (qWI (nI P.1.length) h M z (fun a2 => rowIs a2 q (doMv P f u i v j side) ∧ eqOff q al a2)) := by
  have hlf := lt_some hf
  have hlu := lt_some hu
  have hlv := lt_some hv
  have hli := lt_some hi
  have hlj := lt_some hj
  have hla2 := lt_some ha
  have hlb2 := lt_some hb
  have hB0 := HP0.2.2.2.2.2
  have q1 := hB0.1
  have q2 := hB0.2.1
  have q3 := hB0.2.2.1
  have h1 := hd.2.1
  have h2 := hd.2.2
  have hF : ∀ k x, Fd[k]? = some x → (pW P)[lSt P.2 f + k]? = some x := fun k x hx => lSt_at hf hx
  have hself := mA_self H
  have gf := getD_of (d := []) hf
  have gu := getD_of (d := []) hu
  have gv := getD_of (d := []) hv
  have gi := getD_of (d := 0) hi
  have gj := getD_of (d := 0) hj
  have hxl : x.length ≤ 200 := by
    have e1 := hB0.2.2.2
    have e2 := take_fl hf
    have e3 : Fd.flatten.length ≤ 200 := by
      have : P.2.flatten.flatten.length = (pC P).length := rfl
      omega
    have e4 : x.length ≤ Fd.flatten.length := by
      have e5 := lSt_s hu
      have e6 := lSt_le (l := Fd) (f := u + 1)
      omega
    omega
  have hyl : y.length ≤ 200 := by
    have e1 := hB0.2.2.2
    have e2 := take_fl hf
    have e3 : Fd.flatten.length ≤ 200 := by
      have : P.2.flatten.flatten.length = (pC P).length := rfl
      omega
    have e4 : y.length ≤ Fd.flatten.length := by
      have e5 := lSt_s hv
      have e6 := lSt_le (l := Fd) (f := v + 1)
      omega
    omega
  have eD : doMv P f u i v j side = (lvA P.1 a b, if u = v then P.2.set f (half1 Fd u i j P.1.length side) ++ [half2 P.1 Fd u i j P.1.length side] else P.2.set f (mrg P.1 Fd u i v j P.1.length)) := by
    unfold doMv
    rw [gf, gu, gv, gi, gj]
  have hB1 : P.1.length + 1 ≤ 32 := by
    have e1 := hB.1
    rw [eD] at e1
    simpa [lvA] using e1
  refine ipC_mk [some (.ref M), some (.int (nI p)), some (.int (nI q)), some (.int (nI f)), some (.int (nI u)), some (.int (nI i)), some (.int (nI v)), some (.int (nI j)), some (.int (nI side)), none, none, none, none, none, none, none] rfl (Nat.le_of_ble_eq_true rfl) ?_
  refine c108_0 H.1 (Nat.zero_le _) (Nat.zero_le _) (t_spotAt H HP0 h1 hf hu hi) (kI ?_)
  refine c108_10 H.1 (Nat.zero_le _) (Nat.zero_le _) (t_spotAt H HP0 h1 hf hv hj) (kI ?_)
  refine c108_22 H.1 H.2.1 H.2.2 (by omega) (by decide) HP0.1.1 (Nat.zero_le _) (Nat.zero_le _) (t_clear H h2) (kW fun a2 hcl => ?_)
  have hP2 := HP0.offq hcl.2 hd.1
  -- the lives
  have hfin : ∀ a0, bst al a0 p q P (lvA P.1 a b, []) → ∀ o9 o10 o14 o15 : Option Value, ip sc (ipC sc (d + 4)) 108 0 0 (qWI (nI P.1.length) h M z (fun a2 => rowIs a2 q (doMv P f u i v j side) ∧ eqOff q al a2)) 133 [some (.ref M), some (.int (nI p)), some (.int (nI q)), some (.int (nI f)), some (.int (nI u)), some (.int (nI i)), some (.int (nI v)), some (.int (nI j)), some (.int (nI side)), o9, o10, some (.int (nI (P.1.length))), some (.int (nI 0)), some (.int (nI 0)), o14, o15] [] (mA h M a0) z 0 0 := by
    intro a0 B0 o9 o10 o14 o15
    obtain ⟨Y, hY⟩ : ∃ Y, Y = (if u = v then half1 Fd u i j P.1.length side else mrg P.1 Fd u i v j P.1.length) := ⟨_, rfl⟩
    have hlT : (P.2.set f Y).length = P.2.length := List.length_set
    have hTb : (P.2.set f Y).flatten.length ≤ 64 ∧ (P.2.set f Y).flatten.flatten.length ≤ 200 := by
      rw [eD] at hB
      by_cases e : u = v
      · rw [if_pos e] at hB hY
        rw [← hY] at hB
        have e1 := rB_iff.mp hB
        exact ⟨by omega, by omega⟩
      · rw [if_neg e] at hB hY
        rw [← hY] at hB
        exact ⟨hB.2.2.1, hB.2.2.2⟩
    -- the fields, one behind the other
    have loop : ∀ n g a0 (o9 o10 o14 o15 : Option Value), g + n = P.2.length → bst al a0 p q P (lvA P.1 a b, (P.2.set f Y).take g) → ip sc (ipC sc (d + 4)) 108 0 0 (qWI (nI P.1.length) h M z (fun a2 => rowIs a2 q (doMv P f u i v j side) ∧ eqOff q al a2)) 133 [some (.ref M), some (.int (nI p)), some (.int (nI q)), some (.int (nI f)), some (.int (nI u)), some (.int (nI i)), some (.int (nI v)), some (.int (nI j)), some (.int (nI side)), o9, o10, some (.int (nI (P.1.length))), some (.int (nI (lSt P.2 g))), some (.int (nI g)), o14, o15] [] (mA h M a0) z 0 0 := by
      intro n
      induction n with
      | zero =>
        intro g a0 o9 o10 o14 o15 hg B
        have eg : g = P.2.length := by omega
        rw [List.take_of_length_le (by omega)] at B
        refine c108_133 H.put.1 H.2.1 H.put.2.2 (by omega) (by decide) B.1.1.2.1 (by omega) (by omega) (fun _ => ?_) (fun r => absurd (show P.2.length ≤ g by omega) r)
        refine c108_264 (by omega) (by omega) (fun huv => ?_) (fun huv => c108_271 ?_)
        · subst huv
          have hyx : y = x := Option.some.inj (hv.symm.trans hu)
          subst hyx
          have hij := hij rfl
          rw [if_pos rfl] at eD hY
          subst hY
          rw [eD] at hB
          have e1 := rB_iff.mp hB
          rw [List.length_set] at e1
          have eZ : half2 P.1 Fd u i j P.1.length side = ((if i = j then rnd P.1 y i else y.drop j ++ y.take (i + 1)) ++ [P.1.length]) :: othA side 1 u Fd 0 0 := by unfold half2; rw [gu]
          have hle := app_le (X := [(if i = j then rnd P.1 y i else y.drop j ++ y.take (i + 1)) ++ [P.1.length]]) eZ.symm
          rw [List.length_cons, List.flatten_cons, List.length_append, List.length_append] at hle
          simp only [List.length_nil, List.length_cons, List.flatten_nil] at hle
          refine c108_274 H.put.1 (Nat.zero_le _) (Nat.zero_le _) (o_addField H hd B (by rw [hlT]; omega)) (kW fun a3 B3 => ?_)
          refine c108_279 H.put.1 (Nat.zero_le _) (Nat.zero_le _) (t_wallOf H.put B3.1 h1 (by omega)) (kI ?_)
          refine c108_285 rfl H.put.1 (Nat.zero_le _) (Nat.zero_le _) (o_addWall H hd B3 (by rw [List.length_nil]; omega)) (kW fun a4 B4 => ?_)
          have tail : ∀ a5 (o5 o7 o13b : Option Value), bst al a5 p q P (lvA P.1 a b, P.2.set f (half1 Fd u i j P.1.length side) ++ [[] ++ [(if i = j then rnd P.1 y i else y.drop j ++ y.take (i + 1))]]) → ip sc (ipC sc (d + 4)) 108 0 0 (qWI (nI P.1.length) h M z (fun a2 => rowIs a2 q (doMv P f u i u j side) ∧ eqOff q al a2)) 359 [some (.ref M), some (.int (nI p)), some (.int (nI q)), some (.int (nI f)), some (.int (nI u)), o5, some (.int (nI u)), o7, some (.int (nI side)), o9, o10, some (.int (nI (P.1.length))), some (.int (nI (lSt P.2 g))), some (.int (nI (lSt P.2 f))), o14, o15] [] (mA h M a5) z 0 0 := by
            intro a5 o5 o7 o13b B5
            refine c108_359 H.put.1 (Nat.zero_le _) (Nat.zero_le _) (o_addCorner H hd B5 (by simp only [List.flatten_nil, List.length_nil]; omega) P.1.length) (kW fun a6 B6 => ?_)
            refine c108_366 H.put.1 H.2.1 H.put.2.2 (by omega) (by decide) (B6.1.fl hf) (Nat.zero_le _) (Nat.zero_le _) (o_others H hd B6 hF hl hs (by decide) (by omega) eZ.symm (by omega) (by omega)) (kW fun a7 B7 => c108_390 ?_)
            refine ⟨rfl, rfl, a7, rfl, ?_, B7.2.2⟩
            rw [eD]
            exact B7.2.1
          refine c108_292 (by omega) (by omega) (fun hne => ?_) (fun he => ?_)
          · rw [if_neg hne] at hle
            rw [List.length_append, List.length_drop, List.length_take] at hle
            have hwl := lt_some (hF u y hu)
            refine c108_315 H.put.1 H.2.1 H.put.2.2 (by omega) (by decide) (v9 := y.length) (by rw [show p + 68 + lSt P.2 f + u = p + 68 + (lSt P.2 f + u) by omega]; exact B4.1.wl (hF u y hu)) (by omega) (Nat.zero_le _) (Nat.zero_le _) (o_copyCorners H hd B4 (hF u y hu) (by omega) (by omega) (by simp only [List.flatten_nil, List.length_nil]; omega)) (kW fun a5 B5 => ?_)
            have hdr : (y.drop j).take (y.length - 1 + 1 - j) = y.drop j := List.take_of_length_le (by rw [List.length_drop]; omega)
            rw [hdr] at B5
            refine c108_345 H.put.1 (Nat.zero_le _) (Nat.zero_le _) (o_copyCorners H hd B5 (hF u y hu) (by omega) (by omega) (by simp only [List.flatten_nil, List.length_nil, List.nil_append, List.length_drop]; omega)) (kW fun a6 B6 => ?_)
            refine tail a6 _ _ none ?_
            rw [if_neg hne]
            exact B6
          · have he := Classical.not_not.mp he
            subst he
            rw [if_pos rfl] at hle
            refine c108_299 H.put.1 (Nat.zero_le _) (Nat.zero_le _) (o_round H hd B4 (hF u y hu) hi ha hla (by simp only [List.flatten_nil, List.length_nil]; omega)) (kW fun a5 B5 => c108_312 ?_)
            refine tail a5 _ _ none ?_
            rw [if_pos rfl]
            exact B5
        · refine ⟨rfl, rfl, a0, rfl, ?_, B.2.2⟩
          rw [eD, if_neg huv]
          rw [if_neg huv] at hY
          rw [← hY]
          exact B.2.1
      | succ n ih =>
        intro g a0 o9 o10 o14 o15 hg B
        obtain ⟨Fg, hFg⟩ := gt_some (l := P.2) (i := g) (by omega)
        obtain ⟨Tg, hTg⟩ := gt_some (l := P.2.set f Y) (i := g) (by omega)
        obtain ⟨t1, t2, t3, t4⟩ := take_fl hTg
        have hgl : Fg.length ≤ 64 := by
          have := take_fl hFg
          have e : (pW P).length = P.2.flatten.length := rfl
          omega
        refine c108_133 H.put.1 H.2.1 H.put.2.2 (by omega) (by decide) B.1.1.2.1 (by omega) (by omega) (fun r => absurd r (by omega)) (fun _ => ?_)
        refine c108_146 H.put.1 (Nat.zero_le _) (Nat.zero_le _) (o_addField H hd B (by omega)) (kW fun a3 B3 => ?_)
        have step : ∀ a5 (o15b : Option Value), bst al a5 p q P (lvA P.1 a b, (P.2.set f Y).take g ++ [Tg]) → ip sc (ipC sc (d + 4)) 108 0 0 (qWI (nI P.1.length) h M z (fun a2 => rowIs a2 q (doMv P f u i v j side) ∧ eqOff q al a2)) 251 [some (.ref M), some (.int (nI p)), some (.int (nI q)), some (.int (nI f)), some (.int (nI u)), some (.int (nI i)), some (.int (nI v)), some (.int (nI j)), some (.int (nI side)), o9, o10, some (.int (nI (P.1.length))), some (.int (nI (lSt P.2 g))), some (.int (nI g)), some (.int (nI (Fg.length))), o15b] [] (mA h M a5) z 0 0 := by
          intro a5 o15b B5
          refine c108_251 ?_
          rw [← lSt_s hFg]
          refine ih (g + 1) a5 _ _ _ _ (by omega) ?_
          rw [t1]
          exact B5
        refine c108_151 H.put.1 H.2.1 H.put.2.2 (by omega) (by decide) (B3.1.fl hFg) (by omega) (by omega) (fun he => ?_) (fun hne => c108_171 ?_)
        · subst he
          have e1 : Fg = Fd := Option.some.inj (hFg.symm.trans hf)
          subst e1
          have e2 : Tg = Y := by
            rw [List.getElem?_set] at hTg
            simp at hTg
            exact hTg.2.symm
          subst e2
          refine c108_201 (by omega) (by omega) (fun huv => ?_) (fun huv => ?_)
          · subst huv
            have hyx : y = x := Option.some.inj (hv.symm.trans hu)
            subst hyx
            rw [if_pos rfl] at hY
            refine c108_231 H.put.1 (Nat.zero_le _) (Nat.zero_le _) (o_first (T := Tg) H hd B3 hF hl hs hu hlj (hij rfl) ?_ (by omega) (by omega)) (kW fun a4 B4 => step a4 _ B4)
            rw [hY]
            unfold half1
            rw [gu]
          · rw [if_neg huv] at hY
            refine c108_208 H.put.1 (Nat.zero_le _) (Nat.zero_le _) (o_merges (T := Tg) H hd B3 hF hl hu hv hi hj ha hb hla hlb ?_ (by omega) (by omega)) (kW fun a4 B4 => c108_228 (step a4 _ B4))
            rw [hY]
            unfold mrg
            rw [gu, gv]
        · have e2 : Tg = Fg := by
            rw [List.getElem?_set_ne (fun r => hne r.symm), hFg] at hTg
            exact (Option.some.inj hTg).symm
          subst e2
          have inner : ∀ n k a4, k + n = Tg.length → bst al a4 p q P (lvA P.1 a b, (P.2.set f Y).take g ++ [Tg.take k]) → ip sc (ipC sc (d + 4)) 108 0 0 (qWI (nI P.1.length) h M z (fun a2 => rowIs a2 q (doMv P f u i v j side) ∧ eqOff q al a2)) 174 [some (.ref M), some (.int (nI p)), some (.int (nI q)), some (.int (nI f)), some (.int (nI u)), some (.int (nI i)), some (.int (nI v)), some (.int (nI j)), some (.int (nI side)), o9, o10, some (.int (nI (P.1.length))), some (.int (nI (lSt P.2 g))), some (.int (nI g)), some (.int (nI (Tg.length))), some (.int (nI k))] [] (mA h M a4) z 0 0 := by
            intro n
            induction n with
            | zero =>
              intro k a4 hk B4
              refine c108_174 (by omega) (by omega) (fun _ => c108_198 ?_) (fun r => absurd (show Tg.length ≤ k by omega) r)
              rw [List.take_of_length_le (l := Tg) (by omega)] at B4
              exact step a4 _ B4
            | succ n ih2 =>
              intro k a4 hk B4
              refine c108_174 (by omega) (by omega) (fun r => absurd r (by omega)) (fun _ => ?_)
              obtain ⟨xk, hxk⟩ := gt_some (l := Tg) (i := k) (by omega)
              have eT : Tg.take (k + 1) = Tg.take k ++ [xk] := by rw [List.take_succ, hxk]; rfl
              have hle := app_le (X := Tg.take (k + 1)) (Y := Tg.drop (k + 1)) (T := Tg) (List.take_append_drop _ _)
              rw [eT, List.length_append, List.flatten_append, List.length_append] at hle
              simp only [List.length_nil, List.length_cons, List.flatten_nil, List.flatten_cons, List.append_nil] at hle
              refine c108_181 H.put.1 (Nat.zero_le _) (Nat.zero_le _) (o_copyWall H hd B4 (lSt_at hFg hxk) (by omega) (by omega)) (kW fun a5 B5 => c108_192 ?_)
              refine ih2 (k + 1) a5 (by omega) ?_
              rw [eT]
              exact B5
          exact inner Tg.length 0 a3 (by omega) (by rw [List.take_zero]; exact B3)
    have := loop P.2.length 0 a0 o9 o10 o14 o15 (by omega) (by rw [List.take_zero]; exact B0)
    rw [lSt_0] at this
    exact this
  have livesEnd : ∀ a0 (o9 o10 o12 o13 o14 o15 : Option Value), rowIs a0 p P → eqOff q al a0 → a0 q = nI (P.1.length + 1) → a0 (q + 1) = nI 0 → a0 (q + 2) = nI 0 → a0 (q + 3) = nI 0 → rowL a0 (q + 4) (P.1.mapIdx (fun s l => l - (if s = a then 1 else 0) - (if s = b then 1 else 0))) → ip sc (ipC sc (d + 4)) 108 0 0 (qWI (nI P.1.length) h M z (fun a2 => rowIs a2 q (doMv P f u i v j side) ∧ eqOff q al a2)) 115 [some (.ref M), some (.int (nI p)), some (.int (nI q)), some (.int (nI f)), some (.int (nI u)), some (.int (nI i)), some (.int (nI v)), some (.int (nI j)), some (.int (nI side)), o9, o10, some (.int (nI (P.1.length))), o12, o13, o14, o15] [] (mA h M a0) z 0 0 := by
    intro a0 o9 o10 o12 o13 o14 o15 k1 k2 k3 k4 k5 k6 k7
    have hml : (P.1.mapIdx (fun s l => l - (if s = a then 1 else 0) - (if s = b then 1 else 0))).length = P.1.length := List.length_mapIdx
    refine c108_115 H.put.1 H.2.1 H.put.2.2 (by omega) (by decide) rfl ?_
    rw [show hup (mA h M a0) (M + 1) (.inl (0, 52000, .inl (upd a0 (q + 4 + P.1.length) (nI 1)))) = mA h M (upd a0 (q + 4 + P.1.length) (nI 1)) from hup_hup]
    refine hfin _ ⟨k1.offq (eqOff.up eqOff.rf (by omega)) hd.1, ⟨⟨?_, ?_, ?_, ?_⟩, ?_, rowL_nil, rowL_nil, rowL_nil, ?_, (Nat.le_of_ble_eq_true rfl), (Nat.le_of_ble_eq_true rfl), (Nat.le_of_ble_eq_true rfl)⟩, k2.up (by omega)⟩ o9 o10 o14 o15
    · rw [pk_un (by omega), k3]
      show nI (P.1.length + 1) = nI (lvA P.1 a b).length
      unfold lvA
      rw [List.length_append, hml]
      rfl
    · rw [pk_un (by omega), k4]; rfl
    · rw [pk_un (by omega), k5]; rfl
    · rw [pk_un (by omega), k6]; rfl
    · exact rowL_app k7 (by rw [hml])
    · show (lvA P.1 a b).length ≤ 32
      unfold lvA
      rw [List.length_append, hml]
      exact hB1
  have lives : ∀ n k a0 (o13 o14 o15 : Option Value), k + n = P.1.length → rowIs a0 p P → eqOff q al a0 → a0 q = nI (P.1.length + 1) → a0 (q + 1) = nI 0 → a0 (q + 2) = nI 0 → a0 (q + 3) = nI 0 → rowL a0 (q + 4) ((P.1.mapIdx (fun s l => l - (if s = a then 1 else 0) - (if s = b then 1 else 0))).take k) → ip sc (ipC sc (d + 4)) 108 0 0 (qWI (nI P.1.length) h M z (fun a2 => rowIs a2 q (doMv P f u i v j side) ∧ eqOff q al a2)) 54 [some (.ref M), some (.int (nI p)), some (.int (nI q)), some (.int (nI f)), some (.int (nI u)), some (.int (nI i)), some (.int (nI v)), some (.int (nI j)), some (.int (nI side)), some (.int (nI a)), some (.int (nI b)), some (.int (nI (P.1.length))), some (.int (nI k)), o13, o14, o15] [] (mA h M a0) z 0 0 := by
    intro n
    induction n with
    | zero =>
      intro k a0 o13 o14 o15 hk k1 k2 k3 k4 k5 k6 k7
      refine c108_54 (by omega) (by omega) (fun _ => ?_) (fun r => absurd (show P.1.length ≤ k by omega) r)
      rw [List.take_of_length_le (by rw [List.length_mapIdx]; omega)] at k7
      exact livesEnd a0 _ _ _ _ _ _ k1 k2 k3 k4 k5 k6 k7
    | succ n ih =>
      intro k a0 o13 o14 o15 hk k1 k2 k3 k4 k5 k6 k7
      refine c108_54 (by omega) (by omega) (fun r => absurd r (by omega)) (fun _ => ?_)
      obtain ⟨lk, hlk⟩ := gt_some (l := P.1) (i := k) (by omega)
      have hat := lvA_at (a := a) (b := b) hlk
      have fin : ∀ t1 t2, t1 = (if k = a then 1 else 0) → t2 = (if k = b then 1 else 0) → t2 ≤ lk - t1 → ip sc (ipC sc (d + 4)) 108 0 0 (qWI (nI P.1.length) h M z (fun a2 => rowIs a2 q (doMv P f u i v j side) ∧ eqOff q al a2)) 107 [some (.ref M), some (.int (nI p)), some (.int (nI q)), some (.int (nI f)), some (.int (nI u)), some (.int (nI i)), some (.int (nI v)), some (.int (nI j)), some (.int (nI side)), some (.int (nI a)), some (.int (nI b)), some (.int (nI (P.1.length))), some (.int (nI k)), o13, o14, o15] [.int (nI t2), .int (nI (lk - t1)), .int (nI (q + 4 + k)), .ref (M + 1)] (mA h M a0) z 0 0 := by
        intro t1 t2 e1 e2 hle
        refine c108_107 hle H.put.2.2 (by omega) (by decide) rfl ?_
        rw [show hup (mA h M a0) (M + 1) (.inl (0, 52000, .inl (upd a0 (q + 4 + k) (nI (lk - t1 - t2))))) = mA h M (upd a0 (q + 4 + k) (nI (lk - t1 - t2))) from hup_hup]
        refine ih (k + 1) _ _ _ _ (by omega) (k1.offq (eqOff.up eqOff.rf (by omega)) hd.1) (k2.up (by omega)) (by rw [pk_un (by omega)]; exact k3) (by rw [pk_un (by omega)]; exact k4) (by rw [pk_un (by omega)]; exact k5) (by rw [pk_un (by omega)]; exact k6) ?_
        rw [List.take_succ, hat, e1, e2]
        refine rowL_app k7 ?_
        rw [List.length_take, List.length_mapIdx]
        omega
      have haa : k = a → lk = la := fun e => by subst e; exact Option.some.inj (hlk.symm.trans ha)
      have hbb : k = b → lk = lb := fun e => by subst e; exact Option.some.inj (hlk.symm.trans hb)
      refine c108_61 H.put.1 H.2.1 H.put.2.2 (by omega) (by decide) (k1.li hlk) (by omega) (by omega) (fun hna => c108_93 ?_) (fun hna => c108_89 ?_)
      · refine c108_94 (by omega) (by omega) (by omega) (fun hnb => c108_106 ?_) (fun hnb => c108_102 ?_)
        · exact fin 0 0 (if_neg hna).symm (if_neg hnb).symm (by omega)
        · have hnb := Classical.not_not.mp hnb
          have := hbb hnb
          exact fin 0 1 (if_neg hna).symm (if_pos hnb).symm (by omega)
      · have hna := Classical.not_not.mp hna
        have hk1 := haa hna
        have h1l : 1 ≤ lk := by
          have : 0 < la := Nat.lt_of_le_of_lt (Nat.zero_le _) hc1
          omega
        refine c108_94 (by omega) (by omega) (by omega) (fun hnb => c108_106 ?_) (fun hnb => c108_102 ?_)
        · exact fin 1 0 (if_pos hna).symm (if_neg hnb).symm (by omega)
        · have hnb := Classical.not_not.mp hnb
          rw [if_pos (hna.symm.trans hnb)] at hc1
          exact fin 1 1 (if_pos hna).symm (if_pos hnb).symm (by omega)
  refine c108_39 H.put.1 H.2.1 H.put.2.2 (by omega) (by decide) rfl ?_
  rw [show hup (mA h M a2) (M + 1) (.inl (0, 52000, .inl (upd a2 (q + 0) (nI (P.1.length + 1))))) = mA h M (upd a2 (q + 0) (nI (P.1.length + 1))) from hup_hup]
  refine lives P.1.length 0 _ _ _ _ (by omega) (hP2.offq (eqOff.up eqOff.rf (by omega)) hd.1) (hcl.2.up (by omega)) pk_us (by rw [pk_un (by omega)]; exact hcl.1.1.2.1) (by rw [pk_un (by omega)]; exact hcl.1.1.2.2.1) (by rw [pk_un (by omega)]; exact hcl.1.1.2.2.2) ?_
  rw [List.take_zero]
  exact rowL_nil
end REF

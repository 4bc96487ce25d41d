/-! the reference's groups -/
def gS (s : Nat) (F : List (List (List Nat))) (st : Option Nat × (Nat → Nat)) (f : Nat) : Option Nat × (Nat → Nat) := if s ∈ (F.getD f []).flatten then (match st.1 with | none => (some f, st.2) | some f0 => (some f0, tog st.2 f0 f)) else st
def gF (F : List (List (List Nat))) (g : Nat → Nat) (s n : Nat) : Option Nat × (Nat → Nat) := (List.range n).foldl (gS s F) (none, g)
def gA (F : List (List (List Nat))) (n : Nat) : Nat → Nat := (List.range n).foldl (fun g s => (gF F g s F.length).2) (fun f => f)
/-- the groups of a position's fields -/
def grp (P : PosT) : Nat → Nat := gA P.2 P.1.length
theorem gF_s {F : List (List (List Nat))} {g : Nat → Nat} {s n : Nat} : gF F g s (n + 1) = gS s F (gF F g s n) n := by
  unfold gF
  rw [List.range_succ, List.foldl_append]
  rfl
theorem gA_s {F : List (List (List Nat))} {n : Nat} : gA F (n + 1) = (gF F (gA F n) n F.length).2 := by
  unfold gA
  rw [List.range_succ, List.foldl_append]
  rfl
/-- what a pass over the fields keeps -/
theorem gF_ok {F : List (List (List Nat))} {g : Nat → Nat} {s : Nat} (hg : fix F.length g) : ∀ n, n ≤ F.length → fix F.length (gF F g s n).2 ∧ (∀ f0, (gF F g s n).1 = some f0 → f0 < n ∧ s ∈ (F.getD f0 []).flatten) ∧ (∀ f, f < n → s ∈ (F.getD f []).flatten → ∃ f0, (gF F g s n).1 = some f0 ∧ (gF F g s n).2 f = (gF F g s n).2 f0) ∧ ∀ x y, g x = g y → (gF F g s n).2 x = (gF F g s n).2 y
  | 0, _ => ⟨hg, fun _ q => (by cases q), fun f q => absurd q (Nat.not_lt_zero _), fun x y q => q⟩
  | n + 1, hn => by
    obtain ⟨h1, h2, h3, h4⟩ := gF_ok hg n (by omega)
    rw [gF_s]
    generalize hst : gF F g s n = st at h1 h2 h3 h4
    obtain ⟨o, g2⟩ := st
    unfold gS
    by_cases e : s ∈ (F.getD n []).flatten
    · rw [if_pos e]
      cases o with
      | none =>
        refine ⟨h1, fun f0 q => ?_, fun f hf q => ?_, h4⟩
        · have : n = f0 := Option.some.inj q
          subst this
          exact ⟨by omega, e⟩
        · by_cases r : f = n
          · exact ⟨n, rfl, by rw [r]⟩
          · obtain ⟨f0, q1, q2⟩ := h3 f (by omega) q
            cases q1
      | some f0 =>
        obtain ⟨q1, q2⟩ := h2 f0 rfl
        refine ⟨tog_fix h1 (by omega) (by omega), fun f1 q => ?_, fun f hf q => ?_, fun x y q => tog_eq (h4 x y q)⟩
        · have : f0 = f1 := Option.some.inj q
          subst this
          exact ⟨by omega, q2⟩
        · refine ⟨f0, rfl, ?_⟩
          by_cases r : f = n
          · rw [r]
            exact tog_same.symm
          · obtain ⟨f1, q3, q4⟩ := h3 f (by omega) q
            have : f0 = f1 := Option.some.inj q3
            subst this
            exact tog_eq q4
    · rw [if_neg e]
      refine ⟨h1, fun f0 q => ?_, fun f hf q => ?_, h4⟩
      · obtain ⟨q1, q2⟩ := h2 f0 q
        exact ⟨by omega, q2⟩
      · by_cases r : f = n
        · subst r
          exact absurd q e
        · exact h3 f (by omega) q
theorem gA_ok {F : List (List (List Nat))} : ∀ n, fix F.length (gA F n) ∧ ∀ s, s < n → ∀ f f2, f < F.length → f2 < F.length → s ∈ (F.getD f []).flatten → s ∈ (F.getD f2 []).flatten → gA F n f = gA F n f2
  | 0 => ⟨fun s _ => ⟨Nat.le_refl _, rfl⟩, fun s q => absurd q (Nat.not_lt_zero _)⟩
  | n + 1 => by
    obtain ⟨h1, h2⟩ := gA_ok (F := F) n
    obtain ⟨k1, k2, k3, k4⟩ := gF_ok (s := n) h1 F.length (Nat.le_refl _)
    rw [gA_s]
    refine ⟨k1, fun s hs f f2 hf hf2 q q2 => ?_⟩
    by_cases e : s = n
    · subst e
      obtain ⟨f0, r1, r2⟩ := k3 f hf q
      obtain ⟨f1, r3, r4⟩ := k3 f2 hf2 q2
      rw [r1] at r3
      have : f0 = f1 := Option.some.inj r3
      subst this
      rw [r2, r4]
    · exact k4 _ _ (h2 s (by omega) f f2 hf hf2 q q2)
def mG (h : HP) (M : Nat) (gf : Nat → Int32) : HP := hup h (M + 7) (.inl (0, 32, .inl gf))
def fcN (o : Option Nat) : Nat := match o with | none => 4294967295 | some f => f
theorem fcN_neg : nI 4294967295 = -1 := by decide
section REF
variable {sc : ipSc} {d z M p : Nat} {h : HP} {kn ms kz : Int32} {t : Cur} {al : Nat → Int32} {P : PosT}
def grQ (h : HP) (M z : Nat) (P : PosT) : ipQ := fun o h2 z2 => o = none ∧ z2 = z ∧ ∃ gf, h2 = mG h M gf ∧ lbl P.2.length gf (grp P)
theorem mdA.gg {fs : List Value} {gf : Nat → Int32} (H : mdA h M fs al) : mdA (mG h M gf) M fs al := ⟨hup_ne (by omega) H.1, H.2.1, hup_ne (by omega) H.2.2⟩
theorem mG_self {gf : Nat → Int32} (e : h (M + 7) = some (.inl (0, 32, .inl gf))) : mG h M gf = h := by
  funext x
  unfold mG hup
  split
  · rename_i q
    rw [q, e]
  · rfl
theorem spot_lt {i a : Nat} (HR : rowIs al p P) (hok : posOK P) (h : (pC P)[i]? = some a) : a < 2147483648 := by
  have h1 := hok.1 a (List.mem_of_getElem? h)
  have h2 := HR.2.2.2.2.2.1
  omega
set_option maxHeartbeats 1000000 in
theorem t_groups (H : mdA h M (mFs M kn t ms kz) al) (HR : rowIs al p P) (hp : p + 332 ≤ 52000) (hok : posOK P) {gf0 : Nat → Int32} (Hg : h (M + 7) = some (.inl (0, 32, .inl gf0))) : ipC sc (d + 2) 137 [.ref M, .int (nI p)] h z 0 0 (grQ h M z P) := by
  have hB := HR.2.2.2.2.2
  have b1 := hB.1
  have b2 := hB.2.1
  have b3 := hB.2.2.1
  have b4 := hB.2.2.2
  have H2 : ∀ gf, mdA (mG h M gf) M (mFs M kn t ms kz) al := fun gf => H.gg
  have hW : P.2.flatten.length = (pW P).length := rfl
  refine ipC_mk [some (.ref M), some (.int (nI p)), none, none, none, none, none, none, none, none] rfl (Nat.le_of_ble_eq_true rfl) ?_
  -- the corners of a wall
  have loopI : ∀ (m i s c f k w : Nat) (x l : List Nat) (gf : Nat → Int32), (pW P)[w]? = some x → i + m = x.length → s < 32 → (∀ o9, ip sc (ipC sc (d + 1)) 137 0 0 (grQ h M z P) 144 [some (.ref M), some (.int (nI p)), some (.int (nI s)), some (.int (nI c)), some (.int (nI w)), some (.int (nI (p + 132 + lSt (pW P) w))), some (.int (nI f)), some (.int (nI (if s ∈ l ++ x then 1 else 0))), some (.int (nI k)), o9] [] (mG h M gf) z 0 0) → ip sc (ipC sc (d + 1)) 137 0 0 (grQ h M z P) 95 [some (.ref M), some (.int (nI p)), some (.int (nI s)), some (.int (nI c)), some (.int (nI w)), some (.int (nI (p + 132 + lSt (pW P) w))), some (.int (nI f)), some (.int (nI (if s ∈ l ++ x.take i then 1 else 0))), some (.int (nI k)), some (.int (nI i))] [] (mG h M gf) z 0 0 := by
    intro m
    induction m with
    | zero =>
      intro i s c f k w x l gf hwx him hs K
      have hxl := wall_len hB hwx
      have hwl := lt_some hwx
      refine c137_95 (H2 _).1 rfl (H2 _).2.2 (by omega) (by decide) (HR.wl hwx) (by omega) (by omega) (fun _ => ?_) (fun r => absurd (by omega) r)
      have e : x.take i = x := List.take_of_length_le (by omega)
      rw [e]
      exact K _
    | succ m ih =>
      intro i s c f k w x l gf hwx him hs K
      have hxl := wall_len hB hwx
      have hwl := lt_some hwx
      obtain ⟨y, hy⟩ := gt_some (l := x) (i := i) (by omega)
      have hco : (pC P)[lSt (pW P) w + i]? = some y := lSt_at hwx hy
      have hcl := lt_some hco
      have hca : al (p + 132 + lSt (pW P) w + i) = nI y := by rw [Nat.add_assoc (p + 132)]; exact HR.co hco
      have et : l ++ x.take (i + 1) = (l ++ x.take i) ++ [y] := by rw [List.take_succ, hy]; simp
      have key : ∀ (o7 : Option Value) (b : Nat), b = (if s ∈ l ++ x.take (i + 1) then 1 else 0) → ip sc (ipC sc (d + 1)) 137 0 0 (grQ h M z P) 136 [some (.ref M), some (.int (nI p)), some (.int (nI s)), some (.int (nI c)), some (.int (nI w)), some (.int (nI (p + 132 + lSt (pW P) w))), some (.int (nI f)), o7, some (.int (nI k)), some (.int (nI i))] [.int (nI b)] (mG h M gf) z 0 0 := fun o7 b hb => by
        rw [hb]
        exact c137_136 (ih (i + 1) s c f k w x l gf hwx (by omega) hs K)
      refine c137_95 (H2 _).1 rfl (H2 _).2.2 (by omega) (by decide) (HR.wl hwx) (by omega) (by omega) (fun r => absurd r (by omega)) (fun _ => ?_)
      refine c137_112 (by split <;> omega) (fun r => c137_131 (key _ _ ?_)) (fun r => ?_)
      · rw [if_pos]
        by_cases q : s ∈ l ++ x.take i
        · rw [et]; exact List.mem_append_left _ q
        · rw [if_neg q] at r; exact absurd rfl r
      · have q : s ∉ l ++ x.take i := fun q => r (by rw [if_pos q]; exact Nat.one_ne_zero)
        refine c137_117 (H2 _).1 rfl (H2 _).2.2 (by omega) (by decide) hca (spot_lt HR hok hco) (by omega) (fun e => c137_135 (key _ _ ?_)) (fun e => c137_131 (key _ _ ?_))
        · rw [if_neg]
          rw [et]
          intro m
          rcases List.mem_append.mp m with m | m
          · exact q m
          · exact e (List.mem_singleton.mp m).symm
        · rw [if_pos]
          rw [et]
          exact List.mem_append_right _ (by rw [Decidable.not_not.mp e]; exact List.mem_singleton.mpr rfl)
  -- the walls of a field
  have loopK : ∀ (m k s c f : Nat) (Fd : List (List Nat)) (gf : Nat → Int32), P.2[f]? = some Fd → k + m = Fd.length → s < 32 → (∀ o8 o9, ip sc (ipC sc (d + 1)) 137 0 0 (grQ h M z P) 170 [some (.ref M), some (.int (nI p)), some (.int (nI s)), some (.int (nI c)), some (.int (nI (lSt P.2 f + Fd.length))), some (.int (nI (p + 132 + lSt (pW P) (lSt P.2 f + Fd.length)))), some (.int (nI f)), some (.int (nI (if s ∈ Fd.flatten then 1 else 0))), o8, o9] [] (mG h M gf) z 0 0) → ∀ o9, ip sc (ipC sc (d + 1)) 137 0 0 (grQ h M z P) 75 [some (.ref M), some (.int (nI p)), some (.int (nI s)), some (.int (nI c)), some (.int (nI (lSt P.2 f + k))), some (.int (nI (p + 132 + lSt (pW P) (lSt P.2 f + k)))), some (.int (nI f)), some (.int (nI (if s ∈ (Fd.take k).flatten then 1 else 0))), some (.int (nI k)), o9] [] (mG h M gf) z 0 0 := by
    intro m
    induction m with
    | zero =>
      intro k s c f Fd gf hf hkm hs K o9
      have hfl := lt_some hf
      have hFl : Fd.length ≤ 64 := by have := lSt_s hf; have := lSt_le (l := P.2) (f := f + 1); omega
      refine c137_75 (H2 _).1 rfl (H2 _).2.2 (by omega) (by decide) (HR.fl hf) (by omega) (by omega) (fun _ => ?_) (fun r => absurd (by omega) r)
      have e : Fd.take k = Fd := List.take_of_length_le (by omega)
      have ek : k = Fd.length := by omega
      rw [e, ek]
      exact K _ _
    | succ m ih =>
      intro k s c f Fd gf hf hkm hs K o9
      have hfl := lt_some hf
      have hFl : Fd.length ≤ 64 := by have := lSt_s hf; have := lSt_le (l := P.2) (f := f + 1); omega
      obtain ⟨x, hx⟩ := gt_some (l := Fd) (i := k) (by omega)
      have hwx : (pW P)[lSt P.2 f + k]? = some x := lSt_at hf hx
      have hwl := lt_some hwx
      refine c137_75 (H2 _).1 rfl (H2 _).2.2 (by omega) (by decide) (HR.fl hf) (by omega) (by omega) (fun r => absurd r (by omega)) (fun _ => c137_92 ?_)
      have := loopI x.length 0 s c f k (lSt P.2 f + k) x (Fd.take k).flatten gf hwx (by omega) hs (fun o9 => ?_)
      · rw [List.take_zero, List.append_nil] at this
        exact this
      · refine c137_144 (H2 _).1 rfl (H2 _).2.2 (by omega) (by decide) (HR.wl hwx) ?_
        have e1 : lSt (pW P) (lSt P.2 f + k) + x.length = lSt (pW P) (lSt P.2 f + (k + 1)) := (lSt_s hwx).symm
        have e2 : (Fd.take (k + 1)).flatten = (Fd.take k).flatten ++ x := by rw [List.take_succ, hx]; simp
        have := ih (k + 1) s c f Fd gf hf (by omega) hs K o9
        rw [e2, ← e1, ← Nat.add_assoc (p + 132)] at this
        exact this
  -- the fields
  have loopF : ∀ (m f s : Nat) (g : Nat → Nat) (gf : Nat → Int32), f + m = P.2.length → s < 32 → fix P.2.length g → lbl P.2.length gf (gF P.2 g s f).2 → (∀ gf2, lbl P.2.length gf2 (gF P.2 g s P.2.length).2 → ∀ o3 o4 o5 o6 o7 o8 o9, ip sc (ipC sc (d + 1)) 137 0 0 (grQ h M z P) 205 [some (.ref M), some (.int (nI p)), some (.int (nI s)), o3, o4, o5, o6, o7, o8, o9] [] (mG h M gf2) z 0 0) → ∀ o7 o8 o9, ip sc (ipC sc (d + 1)) 137 0 0 (grQ h M z P) 56 [some (.ref M), some (.int (nI p)), some (.int (nI s)), some (.int (nI (fcN (gF P.2 g s f).1))), some (.int (nI (lSt P.2 f))), some (.int (nI (p + 132 + lSt (pW P) (lSt P.2 f)))), some (.int (nI f)), o7, o8, o9] [] (mG h M gf) z 0 0 := by
    intro m
    induction m with
    | zero =>
      intro f s g gf hfm hs hg hl K o7 o8 o9
      refine c137_56 (H2 _).1 rfl (H2 _).2.2 (by omega) (by decide) (v9 := P.2.length) HR.1.2.1 (by omega) (by omega) (fun _ => ?_) (fun r => absurd (by omega) r)
      have ef : f = P.2.length := by omega
      rw [ef] at hl
      exact K gf hl _ _ _ _ _ _ _
    | succ m ih =>
      intro f s g gf hfm hs hg hl K o7 o8 o9
      obtain ⟨Fd, hf⟩ := gt_some (l := P.2) (i := f) (by omega)
      refine c137_56 (H2 _).1 rfl (H2 _).2.2 (by omega) (by decide) (v9 := P.2.length) HR.1.2.1 (by omega) (by omega) (fun r => absurd r (by omega)) (fun _ => c137_69 ?_)
      obtain ⟨x1, x2, x3, x4⟩ := gF_ok (s := s) hg f (by omega)
      have hgs := gF_s (F := P.2) (g := g) (s := s) (n := f)
      unfold gS at hgs
      rw [getD_of hf] at hgs
      have hls : lSt P.2 (f + 1) = lSt P.2 f + Fd.length := lSt_s hf
      have := loopK Fd.length 0 s (fcN (gF P.2 g s f).1) f Fd gf hf (by omega) hs (fun o8 o9 => ?_) o9
      · rw [List.take_zero] at this
        exact this
      · have next : ∀ (gf2 : Nat → Int32) (o7 o8 o9 : Option Value), lbl P.2.length gf2 (gF P.2 g s (f + 1)).2 → ip sc (ipC sc (d + 1)) 137 0 0 (grQ h M z P) 199 [some (.ref M), some (.int (nI p)), some (.int (nI s)), some (.int (nI (fcN (gF P.2 g s (f + 1)).1))), some (.int (nI (lSt P.2 f + Fd.length))), some (.int (nI (p + 132 + lSt (pW P) (lSt P.2 f + Fd.length)))), some (.int (nI f)), o7, o8, o9] [] (mG h M gf2) z 0 0 := fun gf2 o7 o8 o9 hl2 => by
          have := ih (f + 1) s g gf2 (by omega) hs hg hl2 K o7 o8 o9
          rw [hls] at this
          exact c137_199 this
        by_cases e : s ∈ Fd.flatten
        · rw [if_pos e] at hgs ⊢
          refine c137_170 (by omega) (fun r => absurd r (by omega)) (fun _ => ?_)
          cases ho : (gF P.2 g s f).1 with
          | none =>
            rw [ho] at hgs
            refine b137_175 (fun _ => ?_) (fun r => absurd (by decide) r)
            refine c137_187 (by omega) (fun r => absurd r (by omega)) (fun _ => b137_192 (fun r => absurd r (by decide)) (fun _ => c137_196 ?_))
            have := next gf (some (.int (nI 1))) o8 o9 (by rw [hgs]; exact hl)
            rw [hgs] at this
            exact this
          | some f0 =>
            rw [ho] at hgs
            obtain ⟨y1, y2⟩ := x2 f0 ho
            have hf0 : f0 < 2147483648 := by omega
            have c0 : (0 : Int32) ≤ nI f0 := nI_le (a := 0) (Nat.zero_le _) (by omega)
            refine b137_175 (fun r => absurd r (Int32.not_lt.mpr c0)) (fun _ => ?_)
            refine c137_179 (a_3 := f0) (H2 _).1 (Nat.zero_le _) (Nat.zero_le _) (t_together (H2 _) HR hp hup_eq hl x1 (by omega) (by omega)) ?_
            rintro o h2 z2 ⟨rfl, rfl, gf2, rfl, hl2⟩
            have em : hup (mG h M gf) (M + 7) (.inl (0, 32, .inl gf2)) = mG h M gf2 := hup_hup
            rw [em]
            refine c137_187 (by omega) (fun r => absurd r (by omega)) (fun _ => b137_192 (fun _ => ?_) (fun r => absurd c0 r))
            have := next gf2 (some (.int (nI 1))) o8 o9 (by rw [hgs]; exact hl2)
            rw [hgs] at this
            exact this
        · rw [if_neg e] at hgs ⊢
          refine c137_170 (by omega) (fun _ => ?_) (fun r => absurd rfl r)
          refine c137_187 (by omega) (fun _ => ?_) (fun r => absurd rfl r)
          have := next gf (some (.int (nI 0))) o8 o9 (by rw [hgs]; exact hl)
          rw [hgs] at this
          exact this
  -- the spots
  have loopS : ∀ (m s : Nat) (gf : Nat → Int32), s + m = P.1.length → lbl P.2.length gf (gA P.2 s) → ∀ o3 o4 o5 o6 o7 o8 o9, ip sc (ipC sc (d + 1)) 137 0 0 (grQ h M z P) 29 [some (.ref M), some (.int (nI p)), some (.int (nI s)), o3, o4, o5, o6, o7, o8, o9] [] (mG h M gf) z 0 0 := by
    intro m
    induction m with
    | zero =>
      intro s gf hsm hl o3 o4 o5 o6 o7 o8 o9
      refine c137_29 (H2 _).1 rfl (H2 _).2.2 (by omega) (by decide) (v9 := P.1.length) HR.1.1 (by omega) (by omega) (fun _ => c137_211 ⟨rfl, rfl, gf, rfl, ?_⟩) (fun r => absurd (by omega) r)
      unfold grp
      rw [← show s = P.1.length by omega]
      exact hl
    | succ m ih =>
      intro s gf hsm hl o3 o4 o5 o6 o7 o8 o9
      refine c137_29 (H2 _).1 rfl (H2 _).2.2 (by omega) (by decide) (v9 := P.1.length) HR.1.1 (by omega) (by omega) (fun r => absurd r (by omega)) (fun _ => c137_41 ?_)
      have := loopF P.2.length 0 s (gA P.2 s) gf (by omega) (by omega) (gA_ok s).1 hl (fun gf2 hl2 o3 o4 o5 o6 o7 o8 o9 => c137_205 (ih (s + 1) gf2 (by omega) (by rw [gA_s]; exact hl2) o3 o4 o5 o6 o7 o8 o9)) o7 o8 o9
      rw [lSt_0, lSt_0, Nat.add_zero] at this
      exact this
  -- every field is its own group first
  have loop0 : ∀ (m f : Nat) (gf : Nat → Int32), f + m = P.2.length → (∀ x, x < f → gf x = nI x) → ip sc (ipC sc (d + 1)) 137 0 0 (grQ h M z P) 2 [some (.ref M), some (.int (nI p)), some (.int (nI f)), none, none, none, none, none, none, none] [] (mG h M gf) z 0 0 := by
    intro m
    induction m with
    | zero =>
      intro f gf hfm hl
      exact c137_2 (H2 _).1 rfl (H2 _).2.2 (by omega) (by decide) (v9 := P.2.length) HR.1.2.1 (by omega) (by omega) (fun _ => c137_27 (loopS P.1.length 0 gf (by omega) (fun x hx => hl x (by omega)) _ _ _ _ _ _ _)) (fun r => absurd (by omega) r)
    | succ m ih =>
      intro f gf hfm hl
      refine c137_2 (H2 _).1 rfl (H2 _).2.2 (by omega) (by decide) (v9 := P.2.length) HR.1.2.1 (by omega) (by omega) (fun r => absurd r (by omega)) (fun _ => ?_)
      refine c137_14 (H2 _).1 rfl hup_eq (by omega) (by decide) rfl ?_
      have em : ∀ gf2, hup (mG h M gf) (M + 7) (.inl (0, 32, .inl gf2)) = mG h M gf2 := fun _ => hup_hup
      rw [em]
      refine ih (f + 1) _ (by omega) fun x hx => ?_
      by_cases e : x = f
      · rw [e, pk_us]
      · rw [pk_un e]
        exact hl x (by omega)
  have := loop0 P.2.length 0 gf0 (by omega) fun x hx => absurd hx (Nat.not_lt_zero _)
  rw [mG_self Hg] at this
  exact c137_0 this
end REF

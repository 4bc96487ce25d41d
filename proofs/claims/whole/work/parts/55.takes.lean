/-! the reference's takes -/
/-- the fields of one group -/
def sel (g : Nat → Nat) (w : Nat) (F : List (List (List Nat))) : Nat → List (List (List Nat))
  | 0 => []
  | n + 1 => if g n = w then sel g w F n ++ [F.getD n []] else sel g w F n
theorem sel_len {g : Nat → Nat} {w : Nat} {F : List (List (List Nat))} : ∀ n, n ≤ F.length → (sel g w F n).length ≤ n ∧ (sel g w F n).flatten.length ≤ (F.take n).flatten.length ∧ (sel g w F n).flatten.flatten.length ≤ (F.take n).flatten.flatten.length
  | 0, _ => ⟨Nat.le_refl _, Nat.zero_le _, Nat.zero_le _⟩
  | n + 1, h => by
    obtain ⟨h1, h2, h3⟩ := sel_len (g := g) (w := w) (F := F) n (by omega)
    have hx : F[n]? = some (F.getD n []) := gD (by omega)
    unfold sel
    rw [List.take_succ, hx]
    simp only [Option.toList_some, List.flatten_append, List.length_append, List.flatten_cons, List.flatten_nil, List.append_nil]
    split
    · simp only [List.flatten_append, List.length_append, List.flatten_cons, List.flatten_nil, List.append_nil, List.length_cons, List.length_nil]
      omega
    · omega
section REF
variable {sc : ipSc} {d z M p q : Nat} {h : HP} {kn ms kz : Int32} {t : Cur} {al : Nat → Int32} {P : PosT} {F : List (List (List Nat))} {X : List (List Nat)} {C D : List Nat} {a pf : Nat → Int32} {Q : ipQ}
theorem tk_corner (H : mdA h M (mFs M kn t ms kz) al) (hd : far p q) (hP : P.1.length ≤ 32) {s w wh at0 f k n i : Nat} {o10 : Option Value} (hs : s < P.1.length) (hat : at0 + i < 52000) (hca : a (at0 + i) = nI s) (hb : F.flatten.flatten.length + (X.flatten.length + C.length) + 1 ≤ 200) (S : rdS al p q P a pf D (F ++ [X ++ [C]]))
    (K : ∀ a2 pf2 D2, rdS al p q P a2 pf2 D2 (F ++ [X ++ [C ++ [s]]]) → ip sc (ipC sc (d + 1)) 139 0 0 Q 236 [some (.ref M), some (.int (nI p)), some (.int (nI q)), some (.int (nI wh)), some (.int (nI w)), some (.int (nI at0)), some (.int (nI f)), some (.int (nI k)), some (.int (nI n)), some (.int (nI i)), some (.int (nI s))] [] (mA (mP h M pf2) M a2) z 0 0) :
    ip sc (ipC sc (d + 1)) 139 0 0 Q 148 [some (.ref M), some (.int (nI p)), some (.int (nI q)), some (.int (nI wh)), some (.int (nI w)), some (.int (nI at0)), some (.int (nI f)), some (.int (nI k)), some (.int (nI n)), some (.int (nI i)), o10] [] (mA (mP h M pf) M a) z 0 0 := by
  have h1 := hd.2.1
  have h2 := hd.2.2
  have H2 : ∀ pf2 a2, mdA (mA (mP h M pf2) M a2) M (mFs M kn t ms kz) a2 := fun pf2 a2 => H.pp.put
  obtain ⟨B, k1, k2, k3, k4⟩ := id S
  have hps := k1 s hs
  have hDl := nodup_len k2 k3
  have eadd : nI at0 + nI i = nI (at0 + i) := nI_add _ _
  have cl : (nI s).toNatClampNeg = s := nI_clamp (by omega)
  have cl2 : (nI at0 + nI i).toNatClampNeg = at0 + i := by rw [eadd]; exact nI_clamp (by omega)
  have hraw : a (nI at0 + nI i).toNatClampNeg = nI s := by rw [cl2]; exact hca
  refine b139_148 (H2 _ _).1 rfl (H2 _ _).2.2 (by rw [eadd]; exact vp_in_nI hat (by decide)) rfl mP_at (by rw [hraw]; exact vp_in_nI (by omega) (by decide)) (fun r => ?_) (fun r => ?_)
  · rw [hraw, cl, hps] at r
    rw [hraw]
    by_cases m : s ∈ D
    · rw [if_pos m] at hps
      refine c139_224 (H2 _ _).1 rfl mP_at (by omega) (by decide) hps (Nat.zero_le _) (Nat.zero_le _) (t_addCorner (F := ren (fun s => D.idxOf s) F) (X := X.map (List.map (fun s => D.idxOf s))) (C := C.map (fun s => D.idxOf s)) (H2 _ _) h2 (by rw [← cn_X]; exact B.2.1) (by rw [ren_l3, map_l, List.length_map]; exact hb) _) (kW fun a2 h3 => ?_)
      rw [mA_mA]
      exact K a2 pf D (S.old hd m h3)
    · rw [if_neg m] at r
      exact absurd r (by decide)
  · rw [hraw, cl, hps] at r
    rw [hraw]
    by_cases m : s ∈ D
    · rw [if_pos m] at r
      exact absurd (nI_le (a := 0) (Nat.zero_le _) (Nat.lt_of_lt_of_le (List.idxOf_lt_length_of_mem m) (by omega))) r
    · have hDl2 : D.length + 1 ≤ 32 := by
        have : (D ++ [s]).length ≤ P.1.length := nodup_len (List.nodup_append.mpr ⟨k2, by simp, fun x hx y hy q => m (by rw [List.mem_singleton.mp hy] at q; exact q ▸ hx)⟩) (fun x hx => by
          rcases List.mem_append.mp hx with r | r
          · exact k3 x r
          · rw [List.mem_singleton.mp r]; exact hs)
        rw [List.length_append] at this
        have e : [s].length = 1 := rfl
        omega
      have hrow := B.2.1
      rw [cn_X] at hrow
      have hlv : (D.map (fun s => P.1.getD s 0)).length = D.length := List.length_map _
      have hq0 : a (q + 0) = nI D.length := by rw [← hlv]; exact hrow.1.1
      have hls : a (p + 4 + s) = nI (P.1.getD s 0) := B.1.li (gD hs)
      have hr2 := row_spot (l := P.1.getD s 0) hrow (by rw [hlv]; exact hDl2)
      rw [hlv] at hr2
      refine c139_170 (H2 _ _).1 rfl rfl (H2 _ _).2.2 (by omega) (by decide) hq0 mP_at (by omega) (by decide) rfl (by omega) (v20 := D.length) pk_us (by omega) (by omega) hls (by omega) rfl (by omega) (v30 := D.length) (by rw [pk_un (by omega)]; exact hq0) rfl ?_
      rw [mP_put]
      have em : hup (mA (mP h M (upd pf s (nI D.length))) M a) (M + 1) (.inl (0, 52000, .inl (upd (upd a (q + 4 + D.length) (nI (P.1.getD s 0))) (q + 0) (nI (D.length + 1))))) = mA (mP h M (upd pf s (nI D.length))) M (upd (upd a (q + 4 + D.length) (nI (P.1.getD s 0))) (q + 0) (nI (D.length + 1))) := mA_mA
      rw [em]
      refine c139_224 (H2 _ _).1 rfl mP_at (by omega) (by decide) (v9 := D.length) pk_us (Nat.zero_le _) (Nat.zero_le _) (t_addCorner (F := ren (fun s => D.idxOf s) F) (X := X.map (List.map (fun s => D.idxOf s))) (C := C.map (fun s => D.idxOf s)) (H2 _ _) h2 hr2 (by rw [ren_l3, map_l, List.length_map]; exact hb) _) (kW fun a2 h3 => ?_)
      rw [mA_mA]
      refine K a2 _ (D ++ [s]) (S.new hd m hs ⟨?_, ?_⟩)
      · rw [List.map_append]
        exact h3.1
      · exact eqOff.tr ((eqOff.rf.up (by omega)).up (by omega)) h3.2
def tkQ (h : HP) (M z : Nat) (al : Nat → Int32) (p q : Nat) (P : PosT) (G : List (List (List Nat))) : ipQ := fun o h2 z2 => o = none ∧ z2 = z ∧ ∃ al2 pf2 D, h2 = mA (mP h M pf2) M al2 ∧ rdS al p q P al2 pf2 D G
set_option maxHeartbeats 1000000 in
theorem t_takes (H : mdA h M (mFs M kn t ms kz) al) (Hp : h (M + 6) = some (.inl (0, 32, .inl pf))) {gf : Nat → Int32} (Hg : h (M + 7) = some (.inl (0, 32, .inl gf))) {g : Nat → Nat} (hl : lbl P.2.length gf g) (hx : fix P.2.length g) (HR : rowIs al p P) (hd : far p q) (hok : posOK P) {wh : Nat} (hwh : wh < 32) : ipC sc (d + 2) 139 [.ref M, .int (nI p), .int (nI q), .int (nI wh)] h z 0 0 (tkQ h M z al p q P (sel g wh P.2 P.2.length)) := by
  have h1 := hd.2.1
  have h2 := hd.2.2
  have hB := HR.2.2.2.2.2
  have b1 := hB.1
  have b2 := hB.2.1
  have b3 := hB.2.2.1
  have b4 := hB.2.2.2
  have H2 : ∀ pf2 a2, mdA (mA (mP h M pf2) M a2) M (mFs M kn t ms kz) a2 := fun pf2 a2 => H.pp.put
  have HG : ∀ pf2 a2, mA (mP h M pf2) M a2 (M + 7) = some (.inl (0, 32, .inl gf)) := fun pf2 a2 => hup_ne (by omega) (hup_ne (by omega) Hg)
  have hW : P.2.flatten.length = (pW P).length := rfl
  have hgl : ∀ f, f < P.2.length → g f < 2147483648 := fun f hf => by have := hx.lt hf; omega
  refine ipC_mk [some (.ref M), some (.int (nI p)), some (.int (nI q)), some (.int (nI wh)), none, none, none, none, none, none, none] rfl (Nat.le_of_ble_eq_true rfl) ?_
  refine c139_0 H.1 (Nat.zero_le _) (Nat.zero_le _) (t_clear H h2) (kW fun a0 ⟨r0, o0⟩ => c139_5 ?_)
  have hz : mA h M a0 = mA (mP h M pf) M a0 := by rw [mP_self Hp]
  rw [hz]
  have B0 : bst al a0 p q P ([], []) := ⟨HR.offq o0 hd.1, r0, o0⟩
  generalize hQ : tkQ h M z al p q P (sel g wh P.2 P.2.length) = Q0
  -- the corners of a wall of the group
  have loopC : ∀ (m i f k w : Nat) (x : List Nat) (F : List (List (List Nat))) (Fd : List (List Nat)) (a pf : Nat → Int32) (D : List Nat), P.2[f]? = some Fd → Fd[k]? = some x → w = lSt P.2 f + k → F = sel g wh P.2 f → g f = wh → i + m = x.length → rdS al p q P a pf D (F ++ [Fd.take k ++ [x.take i]]) → (∀ a2 pf2 D2, rdS al p q P a2 pf2 D2 (F ++ [Fd.take (k + 1)]) → ∀ o9 o10, ip sc (ipC sc (d + 1)) 139 0 0 Q0 242 [some (.ref M), some (.int (nI p)), some (.int (nI q)), some (.int (nI wh)), some (.int (nI w)), some (.int (nI (p + 132 + lSt (pW P) w))), some (.int (nI f)), some (.int (nI k)), some (.int (nI x.length)), o9, o10] [] (mA (mP h M pf2) M a2) z 0 0) → ∀ o10, ip sc (ipC sc (d + 1)) 139 0 0 Q0 130 [some (.ref M), some (.int (nI p)), some (.int (nI q)), some (.int (nI wh)), some (.int (nI w)), some (.int (nI (p + 132 + lSt (pW P) w))), some (.int (nI f)), some (.int (nI k)), some (.int (nI x.length)), some (.int (nI i)), o10] [] (mA (mP h M pf) M a) z 0 0 := by
    intro m
    induction m with
    | zero =>
      intro i f k w x F Fd a pf D hf hk hw hF hgf him S K o10
      have hxl : x.length ≤ 200 := wall_len hB (lSt_at hf hk)
      refine c139_130 (by omega) (by omega) (fun _ => ?_) (fun r => absurd (by omega) r)
      have e : x.take i = x := List.take_of_length_le (by omega)
      have e2 : Fd.take (k + 1) = Fd.take k ++ [x] := by rw [List.take_succ, hk]; rfl
      rw [e, ← e2] at S
      exact K _ _ _ S _ _
    | succ m ih =>
      intro i f k w x F Fd a pf D hf hk hw hF hgf him S K o10
      have hxl : x.length ≤ 200 := wall_len hB (lSt_at hf hk)
      have hwx : (pW P)[w]? = some x := by rw [hw]; exact lSt_at hf hk
      obtain ⟨s, hs⟩ := gt_some (l := x) (i := i) (by omega)
      have hco : (pC P)[lSt (pW P) w + i]? = some s := lSt_at hwx hs
      have hcl := lt_some hco
      have hsl : s < P.1.length := hok.1 s (List.mem_of_getElem? hco)
      have hca : a (p + 132 + lSt (pW P) w + i) = nI s := by rw [Nat.add_assoc (p + 132)]; exact S.1.1.co hco
      have hwl := lt_some hwx
      have hfl := lt_some hf
      have hkl := lt_some hk
      have hlF := sel_len (g := g) (w := wh) (F := P.2) f (by omega)
      rw [← hF] at hlF
      have et2 : lSt (pW P) w = (P.2.take f).flatten.flatten.length + (Fd.take k).flatten.length := by
        unfold lSt
        have : (pW P).take w = (P.2.take f).flatten ++ Fd.take k := by rw [hw]; exact take_fl2 hf (Nat.le_of_lt hkl)
        rw [this, List.flatten_append, List.length_append]
      have hCl : (x.take i).length ≤ i := by rw [List.length_take]; omega
      refine c139_130 (by omega) (by omega) (fun r => absurd r (by omega)) (fun _ => ?_)
      refine c139_137 (H2 _ _).1 rfl (HG _ _) (by omega) (by decide) (hl f hfl) (hgl f hfl) (by omega) (fun r => absurd hgf r) (fun _ => ?_)
      refine tk_corner H hd b1 hsl (by omega) hca (by omega) S (fun a3 pf3 D3 S3 => c139_236 ?_)
      have e : x.take (i + 1) = x.take i ++ [s] := by rw [List.take_succ, hs]; rfl
      exact ih (i + 1) f k w x F Fd a3 pf3 D3 hf hk hw hF hgf (by omega) (by rw [e]; exact S3) K _
  -- the walls of a field
  have loopW : ∀ (m f k : Nat) (Fd : List (List Nat)) (F : List (List (List Nat))) (a pf : Nat → Int32) (D : List Nat), P.2[f]? = some Fd → F = sel g wh P.2 f → k + m = Fd.length → rdS al p q P a pf D (if g f = wh then F ++ [Fd.take k] else F) → (∀ a2 pf2 D2, rdS al p q P a2 pf2 D2 (if g f = wh then F ++ [Fd] else F) → ∀ o7 o8 o9 o10, ip sc (ipC sc (d + 1)) 139 0 0 Q0 258 [some (.ref M), some (.int (nI p)), some (.int (nI q)), some (.int (nI wh)), some (.int (nI (lSt P.2 f + Fd.length))), some (.int (nI (p + 132 + lSt (pW P) (lSt P.2 f + Fd.length)))), some (.int (nI f)), o7, o8, o9, o10] [] (mA (mP h M pf2) M a2) z 0 0) → ∀ o8 o9 o10, ip sc (ipC sc (d + 1)) 139 0 0 Q0 80 [some (.ref M), some (.int (nI p)), some (.int (nI q)), some (.int (nI wh)), some (.int (nI (lSt P.2 f + k))), some (.int (nI (p + 132 + lSt (pW P) (lSt P.2 f + k)))), some (.int (nI f)), some (.int (nI k)), o8, o9, o10] [] (mA (mP h M pf) M a) z 0 0 := by
    intro m
    induction m with
    | zero =>
      intro f k Fd F a pf D hf hF hkm S K o8 o9 o10
      have hfl := lt_some hf
      have hFl : Fd.length ≤ 64 := by have := lSt_s hf; have := lSt_le (l := P.2) (f := f + 1); omega
      refine c139_80 (H2 _ _).1 rfl (H2 _ _).2.2 (by omega) (by decide) (S.1.1.fl hf) (by omega) (by omega) (fun _ => ?_) (fun r => absurd (by omega) r)
      have e : Fd.take k = Fd := List.take_of_length_le (by omega)
      have ek : k = Fd.length := by omega
      rw [e] at S
      rw [ek]
      exact K _ _ _ S _ _ _ _
    | succ m ih =>
      intro f k Fd F a pf D hf hF hkm S K o8 o9 o10
      have hfl := lt_some hf
      have hFl : Fd.length ≤ 64 := by have := lSt_s hf; have := lSt_le (l := P.2) (f := f + 1); omega
      obtain ⟨x, hx2⟩ := gt_some (l := Fd) (i := k) (by omega)
      have hwx : (pW P)[lSt P.2 f + k]? = some x := lSt_at hf hx2
      have hwl := lt_some hwx
      have hkl := lt_some hx2
      have hxl : x.length ≤ 200 := wall_len hB hwx
      have e1 : lSt (pW P) (lSt P.2 f + k) + x.length = lSt (pW P) (lSt P.2 f + (k + 1)) := (lSt_s hwx).symm
      have nxt : ∀ a2 pf2 D2, rdS al p q P a2 pf2 D2 (if g f = wh then F ++ [Fd.take (k + 1)] else F) → ∀ o9 o10, ip sc (ipC sc (d + 1)) 139 0 0 Q0 242 [some (.ref M), some (.int (nI p)), some (.int (nI q)), some (.int (nI wh)), some (.int (nI (lSt P.2 f + k))), some (.int (nI (p + 132 + lSt (pW P) (lSt P.2 f + k)))), some (.int (nI f)), some (.int (nI k)), some (.int (nI x.length)), o9, o10] [] (mA (mP h M pf2) M a2) z 0 0 := fun a2 pf2 D2 S2 o9 o10 => by
        refine c139_242 ?_
        have := ih f (k + 1) Fd F a2 pf2 D2 hf hF (by omega) S2 K (some (.int (nI x.length))) o9 o10
        rw [← e1, ← Nat.add_assoc (p + 132)] at this
        exact this
      refine c139_80 (H2 _ _).1 rfl (H2 _ _).2.2 (by omega) (by decide) (S.1.1.fl hf) (by omega) (by omega) (fun r => absurd r (by omega)) (fun _ => ?_)
      refine c139_97 (H2 _ _).1 rfl (H2 _ _).2.2 (by omega) (by decide) (S.1.1.wl hwx) rfl (HG _ _) (by omega) (by decide) (hl f hfl) (hgl f hfl) (by omega) (fun r => ?_) (fun r => ?_)
      · rw [if_neg r] at S nxt
        refine c139_127 (c139_130 (by omega) (by omega) (fun _ => nxt a pf D S _ _) (fun _ => ?_))
        exact c139_137 (H2 _ _).1 rfl (HG _ _) (by omega) (by decide) (hl f hfl) (hgl f hfl) (by omega) (fun _ => nxt a pf D S _ _) (fun q => absurd r q)
      · have r := Decidable.not_not.mp r
        rw [if_pos r] at S nxt
        have hlF := sel_len (g := g) (w := wh) (F := P.2) f (by omega)
        rw [← hF] at hlF
        have et1 : (P.2.take f).flatten.length = lSt P.2 f := rfl
        have hkt : (Fd.take k).length = k := by rw [List.length_take]; omega
        refine c139_122 (H2 _ _).1 (Nat.zero_le _) (Nat.zero_le _) (t_addWall (F := ren (fun s => D.idxOf s) F) (X := (Fd.take k).map (List.map (fun s => D.idxOf s))) (H2 _ _) h2 (by rw [← cn_F]; exact S.1.2.1) (by rw [ren_l2, List.length_map]; omega)) (kW fun a2 h3 => ?_)
        rw [mA_mA]
        refine c139_127 (loopC x.length 0 f k (lSt P.2 f + k) x F Fd a2 pf D hf hx2 rfl hF r (by omega) ?_ (fun a3 pf3 D3 S3 o9 o10 => nxt a3 pf3 D3 S3 o9 o10) _)
        obtain ⟨B1, q1, q2, q3, q4⟩ := S
        refine ⟨B1.nx hd ⟨?_, h3.2⟩, q1, q2, q3, fun y => ?_⟩
        · rw [cn_X, List.take_zero]
          exact h3.1
        · rw [← q4 y, List.take_zero]
          simp
  -- the fields
  have loopF : ∀ (m f : Nat) (a pf : Nat → Int32) (D : List Nat), f + m = P.2.length → rdS al p q P a pf D (sel g wh P.2 f) → ∀ o7 o8 o9 o10, ip sc (ipC sc (d + 1)) 139 0 0 Q0 48 [some (.ref M), some (.int (nI p)), some (.int (nI q)), some (.int (nI wh)), some (.int (nI (lSt P.2 f))), some (.int (nI (p + 132 + lSt (pW P) (lSt P.2 f)))), some (.int (nI f)), o7, o8, o9, o10] [] (mA (mP h M pf) M a) z 0 0 := by
    intro m
    induction m with
    | zero =>
      intro f a pf D hfm S o7 o8 o9 o10
      refine c139_48 (H2 _ _).1 rfl (H2 _ _).2.2 (by omega) (by decide) (v9 := P.2.length) S.1.1.1.2.1 (by omega) (by omega) (fun _ => c139_264 ?_) (fun r => absurd (by omega) r)
      rw [← hQ, ← show f = P.2.length by omega]
      exact ⟨rfl, rfl, a, pf, D, rfl, S⟩
    | succ m ih =>
      intro f a pf D hfm S o7 o8 o9 o10
      obtain ⟨Fd, hf⟩ := gt_some (l := P.2) (i := f) (by omega)
      have hfl := lt_some hf
      have hlF := sel_len (g := g) (w := wh) (F := P.2) f (by omega)
      have es : sel g wh P.2 (f + 1) = if g f = wh then sel g wh P.2 f ++ [Fd] else sel g wh P.2 f := by
        have := getD_of (d := []) hf
        show (if g f = wh then sel g wh P.2 f ++ [P.2.getD f []] else sel g wh P.2 f) = _
        rw [this]
      have nxt : ∀ a2 pf2 D2, rdS al p q P a2 pf2 D2 (if g f = wh then sel g wh P.2 f ++ [Fd] else sel g wh P.2 f) → ∀ o7 o8 o9 o10, ip sc (ipC sc (d + 1)) 139 0 0 Q0 258 [some (.ref M), some (.int (nI p)), some (.int (nI q)), some (.int (nI wh)), some (.int (nI (lSt P.2 f + Fd.length))), some (.int (nI (p + 132 + lSt (pW P) (lSt P.2 f + Fd.length)))), some (.int (nI f)), o7, o8, o9, o10] [] (mA (mP h M pf2) M a2) z 0 0 := fun a2 pf2 D2 S2 o7 o8 o9 o10 => by
        refine c139_258 ?_
        have := ih (f + 1) a2 pf2 D2 (by omega) (by rw [es]; exact S2) o7 o8 o9 o10
        rw [lSt_s hf] at this
        exact this
      refine c139_48 (H2 _ _).1 rfl (H2 _ _).2.2 (by omega) (by decide) (v9 := P.2.length) S.1.1.1.2.1 (by omega) (by omega) (fun r => absurd r (by omega)) (fun _ => ?_)
      refine c139_61 (H2 _ _).1 rfl (HG _ _) (by omega) (by decide) (hl f hfl) (hgl f hfl) (by omega) (fun r => ?_) (fun r => ?_)
      · exact c139_77 (loopW Fd.length f 0 Fd _ a pf D hf rfl (by omega) (by rw [if_neg r]; exact S) nxt _ _ _)
      · have r := Decidable.not_not.mp r
        refine c139_72 (H2 _ _).1 (Nat.zero_le _) (Nat.zero_le _) (t_addField (F := ren (fun s => D.idxOf s) (sel g wh P.2 f)) (H2 _ _) h2 S.1.2.1 (by rw [ren_l1]; omega)) (kW fun a2 h3 => ?_)
        rw [mA_mA]
        refine c139_77 (loopW Fd.length f 0 Fd _ a2 pf D hf rfl (by omega) ?_ nxt _ _ _)
        rw [if_pos r, List.take_zero]
        obtain ⟨B1, q1, q2, q3, q4⟩ := S
        refine ⟨B1.nx hd ⟨?_, h3.2⟩, q1, q2, q3, fun y => ?_⟩
        · rw [cn_F]
          exact h3.1
        · rw [← q4 y]
          simp
  -- the numbers are wiped out first
  have loop0 : ∀ (m s : Nat) (pf : Nat → Int32), s + m = P.1.length → (∀ x, x < s → pf x = -1) → ip sc (ipC sc (d + 1)) 139 0 0 Q0 8 [some (.ref M), some (.int (nI p)), some (.int (nI q)), some (.int (nI wh)), some (.int (nI s)), none, none, none, none, none, none] [] (mA (mP h M pf) M a0) z 0 0 := by
    intro m
    induction m with
    | zero =>
      intro s pf hsm hpf
      refine c139_8 (H2 _ _).1 rfl (H2 _ _).2.2 (by omega) (by decide) (v9 := P.1.length) B0.1.1.1 (by omega) (by omega) (fun _ => c139_35 ?_) (fun r => absurd (by omega) r)
      have := loopF P.2.length 0 a0 pf [] (by omega) ⟨B0, fun x hx => (by rw [if_neg (by simp)]; exact hpf x (by omega)), List.nodup_nil, fun x hx => (by cases hx), fun x => (by simp [sel])⟩ none none none none
      rw [lSt_0, lSt_0, Nat.add_zero] at this
      exact this
    | succ m ih =>
      intro s pf hsm hpf
      refine c139_8 (H2 _ _).1 rfl (H2 _ _).2.2 (by omega) (by decide) (v9 := P.1.length) B0.1.1.1 (by omega) (by omega) (fun r => absurd r (by omega)) (fun _ => ?_)
      refine c139_21 (H2 _ _).1 rfl mP_at (by omega) (by decide) rfl ?_
      rw [mP_put]
      refine ih (s + 1) _ (by omega) fun x hx => ?_
      by_cases e : x = s
      · rw [e, pk_us]
      · rw [pk_un e]
        exact hpf x (by omega)
  exact loop0 P.1.length 0 pf (by omega) fun x hx => absurd hx (Nat.not_lt_zero _)
end REF

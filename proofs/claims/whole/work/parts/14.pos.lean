/-! positions as lists; a row of the reference's 'all' -/
theorem ipC_mk {sc : ipSc} {d mid MC MS z : Nat} {vs : List Value} {h : HP} {Q : ipQ} (lv : ipV) (e : ipIn (ipM mid) vs = lv) (hl : (ipArgs vs).length ≤ ipM mid) (k : ip sc (ipC sc d) mid MC MS Q 0 lv [] h z 0 0) : ipC sc (d + 1) mid vs h z MC MS Q := ⟨hl, by rw [e]; exact k⟩
def qI (v : Int32) (h : HP) (z : Nat) : ipQ := fun o h2 z2 => o = some (.int v) ∧ h2 = h ∧ z2 = z
def qV (h : HP) (z : Nat) : ipQ := fun o h2 z2 => o = none ∧ h2 = h ∧ z2 = z
def qR (r : Nat) (h : HP) (z : Nat) : ipQ := fun o h2 z2 => o = some (.ref r) ∧ h2 = h ∧ z2 = z
section KQ
variable {sc : ipSc} {call : ipCall} {mid MC MS pc : Nat} {Q : ipQ} {lv : ipV} {rest : List Value} {h : HP} {z c s : Nat}
theorem kI {v : Int32} (K : ip sc call mid MC MS Q pc lv (.int v :: rest) h z c s) : ∀ (o : Option Value) (h2 : HP) (z2 : Nat), qI v h z o h2 z2 → ip sc call mid MC MS Q pc lv (o.toList ++ rest) h2 z2 c s := by
  rintro _ _ _ ⟨rfl, rfl, rfl⟩
  exact K
theorem kV (K : ip sc call mid MC MS Q pc lv rest h z c s) : ∀ (o : Option Value) (h2 : HP) (z2 : Nat), qV h z o h2 z2 → ip sc call mid MC MS Q pc lv (o.toList ++ rest) h2 z2 c s := by
  rintro _ _ _ ⟨rfl, rfl, rfl⟩
  exact K
theorem kR {r : Nat} (K : ip sc call mid MC MS Q pc lv (.ref r :: rest) h z c s) : ∀ (o : Option Value) (h2 : HP) (z2 : Nat), qR r h z o h2 z2 → ip sc call mid MC MS Q pc lv (o.toList ++ rest) h2 z2 c s := by
  rintro _ _ _ ⟨rfl, rfl, rfl⟩
  exact K
end KQ
abbrev PosT : Type := List Nat × List (List (List Nat))
def pW (P : PosT) : List (List Nat) := P.2.flatten
def pC (P : PosT) : List Nat := (pW P).flatten
/-- where the f-th of lists begins, if they are laid one behind the other -/
def lSt {α : Type} (l : List (List α)) (f : Nat) : Nat := ((l.take f).flatten).length
theorem lSt_0 {α : Type} {l : List (List α)} : lSt l 0 = 0 := by simp [lSt]
theorem lSt_s {α : Type} {l : List (List α)} {f : Nat} {x : List α} (h : l[f]? = some x) : lSt l (f + 1) = lSt l f + x.length := by
  unfold lSt
  rw [List.take_succ, h]
  simp
theorem lSt_at {α : Type} : ∀ {l : List (List α)} {f u : Nat} {x : List α} {y : α}, l[f]? = some x → x[u]? = some y → l.flatten[lSt l f + u]? = some y
  | [], f, u, x, y, h, _ => by simp at h
  | a :: l, 0, u, x, y, h, hu => by
    simp at h
    subst h
    have hlt := (List.getElem?_eq_some_iff.mp hu).1
    rw [lSt_0, Nat.zero_add, List.flatten_cons, List.getElem?_append_left hlt]
    exact hu
  | a :: l, f + 1, u, x, y, h, hu => by
    have ih := lSt_at (l := l) (f := f) (u := u) (by simpa using h) hu
    have e : lSt (a :: l) (f + 1) = a.length + lSt l f := by simp [lSt]
    rw [e, List.flatten_cons, List.getElem?_append_right (by omega), show a.length + lSt l f + u - a.length = lSt l f + u by omega]
    exact ih
theorem lSt_le {α : Type} {l : List (List α)} {f : Nat} : lSt l f ≤ l.flatten.length := by
  unfold lSt
  rw [← List.take_append_drop f l, List.flatten_append, List.length_append]
  simp
theorem lSt_len {α : Type} {l : List (List α)} : lSt l l.length = l.flatten.length := by simp [lSt]
def rowL (al : Nat → Int32) (off : Nat) (l : List Nat) : Prop := ∀ (i v : Nat), l[i]? = some v → al (off + i) = nI v
theorem rowL_nil {al : Nat → Int32} {off : Nat} : rowL al off [] := fun i v h => by simp at h
theorem rowL_out {al : Nat → Int32} {off k : Nat} {l : List Nat} {x : Int32} (h : rowL al off l) (hk : k < off ∨ off + l.length ≤ k) : rowL (upd al k x) off l := fun i v hi => by
  have hlt := (List.getElem?_eq_some_iff.mp hi).1
  rw [pk_un (by omega)]
  exact h i v hi
theorem rowL_app {al : Nat → Int32} {off k v : Nat} {l : List Nat} (h : rowL al off l) (hk : k = off + l.length) : rowL (upd al k (nI v)) off (l ++ [v]) := fun i w hi => by
  subst hk
  by_cases e : i < l.length
  · rw [List.getElem?_append_left e] at hi
    rw [pk_un (by omega)]
    exact h i w hi
  · rw [List.getElem?_append_right (by omega)] at hi
    have e2 : i - l.length < 1 := (List.getElem?_eq_some_iff.mp hi).1
    have e3 : i = l.length := by omega
    subst e3
    simp at hi
    subst hi
    exact pk_us
theorem rowL_last {al : Nat → Int32} {off k v w : Nat} {l : List Nat} (h : rowL al off (l ++ [w])) (hk : k = off + l.length) : rowL (upd al k (nI v)) off (l ++ [v]) := by
  refine rowL_app (fun i x hi => h i x ?_) hk
  have hlt := (List.getElem?_eq_some_iff.mp hi).1
  rw [List.getElem?_append_left hlt]
  exact hi
theorem rowL_set {al : Nat → Int32} {off k i v : Nat} {l : List Nat} (h : rowL al off l) (hk : k = off + i) (hi : i < l.length) : rowL (upd al k (nI v)) off (l.set i v) := fun j w hj => by
  subst hk
  by_cases e : i = j
  · subst e
    rw [List.getElem?_set] at hj
    simp [hi] at hj
    subst hj
    exact pk_us
  · rw [List.getElem?_set_ne e] at hj
    rw [pk_un (by omega)]
    exact h j w hj
theorem rowL_off {al al2 : Nat → Int32} {off : Nat} {l : List Nat} (h : rowL al off l) (he : ∀ x, off ≤ x → x < off + l.length → al2 x = al x) : rowL al2 off l := fun i v hi => by
  have hlt := (List.getElem?_eq_some_iff.mp hi).1
  rw [he _ (by omega) (by omega)]
  exact h i v hi
def rowB (P : PosT) : Prop := P.1.length ≤ 32 ∧ P.2.length ≤ 32 ∧ (pW P).length ≤ 64 ∧ (pC P).length ≤ 200
def rowIs (al : Nat → Int32) (p : Nat) (P : PosT) : Prop := (al p = nI P.1.length ∧ al (p + 1) = nI P.2.length ∧ al (p + 2) = nI (pW P).length ∧ al (p + 3) = nI (pC P).length) ∧ rowL al (p + 4) P.1 ∧ rowL al (p + 36) (P.2.map List.length) ∧ rowL al (p + 68) ((pW P).map List.length) ∧ rowL al (p + 132) (pC P) ∧ rowB P
def eqOff (q : Nat) (al al2 : Nat → Int32) : Prop := ∀ x, x < q ∨ q + 332 ≤ x → al2 x = al x
theorem eqOff.rf {q : Nat} {al : Nat → Int32} : eqOff q al al := fun _ _ => rfl
theorem eqOff.tr {q : Nat} {a b c : Nat → Int32} (h1 : eqOff q a b) (h2 : eqOff q b c) : eqOff q a c := fun x hx => (h2 x hx).trans (h1 x hx)
theorem eqOff.up {q k : Nat} {a b : Nat → Int32} {x : Int32} (h1 : eqOff q a b) (h2 : q ≤ k ∧ k < q + 332) : eqOff q a (upd b k x) := fun y hy => by
  rw [pk_un (by omega)]
  exact h1 y hy
theorem rowIs.off {al al2 : Nat → Int32} {p : Nat} {P : PosT} (h : rowIs al p P) (he : ∀ x, p ≤ x → x < p + 332 → al2 x = al x) : rowIs al2 p P := by
  obtain ⟨⟨h1, h2, h3, h4⟩, h5, h6, h7, h8, b1, b2, b3, b4⟩ := h
  refine ⟨⟨?_, ?_, ?_, ?_⟩, rowL_off h5 ?_, rowL_off h6 ?_, rowL_off h7 ?_, rowL_off h8 ?_, b1, b2, b3, b4⟩
  · rw [he _ (by omega) (by omega)]; exact h1
  · rw [he _ (by omega) (by omega)]; exact h2
  · rw [he _ (by omega) (by omega)]; exact h3
  · rw [he _ (by omega) (by omega)]; exact h4
  · intro x q1 q2; exact he x (by omega) (by omega)
  · intro x q1 q2; rw [List.length_map] at q2; exact he x (by omega) (by omega)
  · intro x q1 q2; rw [List.length_map] at q2; exact he x (by omega) (by omega)
  · intro x q1 q2; exact he x (by omega) (by omega)
theorem rowIs.offq {al al2 : Nat → Int32} {p q : Nat} {P : PosT} (h : rowIs al p P) (he : eqOff q al al2) (hd : p + 332 ≤ q ∨ q + 332 ≤ p) : rowIs al2 p P := h.off fun x h1 h2 => he x (by omega)
/-- the reference's object, its 'all' -/
def mdA (h : HP) (M : Nat) (fs : List Value) (al : Nat → Int32) : Prop := h M = some (.inr (9, fs)) ∧ fs[0]? = some (.ref (M + 1)) ∧ h (M + 1) = some (.inl (0, 52000, .inl al))
def mA (h : HP) (M : Nat) (al : Nat → Int32) : HP := hup h (M + 1) (.inl (0, 52000, .inl al))
theorem mA_mA {h : HP} {M : Nat} {a b : Nat → Int32} : mA (mA h M a) M b = mA h M b := hup_hup
theorem mdA.put {h : HP} {M : Nat} {fs : List Value} {al al2 : Nat → Int32} (H : mdA h M fs al) : mdA (mA h M al2) M fs al2 := ⟨hup_ne (by omega) H.1, H.2.1, hup_eq⟩
theorem mA_self {h : HP} {M : Nat} {fs : List Value} {al : Nat → Int32} (H : mdA h M fs al) : mA h M al = h := by
  funext x
  unfold mA hup
  by_cases q : x = M + 1
  · rw [if_pos q, q, H.2.2]
  · rw [if_neg q]
/-- a method that changes 'all' alone -/
def qW (h : HP) (M z : Nat) (R : (Nat → Int32) → Prop) : ipQ := fun o h2 z2 => o = none ∧ z2 = z ∧ ∃ al2, h2 = mA h M al2 ∧ R al2
def qWI (v : Int32) (h : HP) (M z : Nat) (R : (Nat → Int32) → Prop) : ipQ := fun o h2 z2 => o = some (.int v) ∧ z2 = z ∧ ∃ al2, h2 = mA h M al2 ∧ R al2
theorem kW {sc : ipSc} {call : ipCall} {mid MC MS pc : Nat} {Q : ipQ} {lv : ipV} {rest : List Value} {h : HP} {M z c s : Nat} {R : (Nat → Int32) → Prop} (K : ∀ al2, R al2 → ip sc call mid MC MS Q pc lv rest (mA h M al2) z c s) : ∀ (o : Option Value) (h2 : HP) (z2 : Nat), qW h M z R o h2 z2 → ip sc call mid MC MS Q pc lv (o.toList ++ rest) h2 z2 c s := by
  rintro _ _ _ ⟨rfl, rfl, al2, rfl, hR⟩
  exact K al2 hR
theorem kWI {sc : ipSc} {call : ipCall} {mid MC MS pc : Nat} {Q : ipQ} {lv : ipV} {rest : List Value} {h : HP} {M z c s : Nat} {v : Int32} {R : (Nat → Int32) → Prop} (K : ∀ al2, R al2 → ip sc call mid MC MS Q pc lv (.int v :: rest) (mA h M al2) z c s) : ∀ (o : Option Value) (h2 : HP) (z2 : Nat), qWI v h M z R o h2 z2 → ip sc call mid MC MS Q pc lv (o.toList ++ rest) h2 z2 c s := by
  rintro _ _ _ ⟨rfl, rfl, al2, rfl, hR⟩
  exact K al2 hR
section REF
variable {sc : ipSc} {d z M p q : Nat} {h : HP} {fs : List Value} {al : Nat → Int32} {P : PosT}
theorem rowIs.fl {f : Nat} {F : List (List Nat)} (H : rowIs al p P) (hf : P.2[f]? = some F) : al (p + 36 + f) = nI F.length := H.2.2.1 f _ (by rw [List.getElem?_map, hf]; rfl)
theorem rowIs.wl {w : Nat} {x : List Nat} (H : rowIs al p P) (hf : (pW P)[w]? = some x) : al (p + 68 + w) = nI x.length := H.2.2.2.1 w _ (by rw [List.getElem?_map, hf]; rfl)
theorem rowIs.co {i a : Nat} (H : rowIs al p P) (hf : (pC P)[i]? = some a) : al (p + 132 + i) = nI a := H.2.2.2.2.1 i a hf
theorem rowIs.li {i a : Nat} (H : rowIs al p P) (hf : P.1[i]? = some a) : al (p + 4 + i) = nI a := H.2.1 i a hf
theorem gt_some {α : Type} {l : List α} {i : Nat} (h : i < l.length) : ∃ x, l[i]? = some x := ⟨l[i], List.getElem?_eq_getElem h⟩
theorem lt_some {α : Type} {l : List α} {i : Nat} {x : α} (h : l[i]? = some x) : i < l.length := (List.getElem?_eq_some_iff.mp h).1
theorem t_wallOf (H : mdA h M fs al) (HR : rowIs al p P) (hp : p + 332 ≤ 52000) {f : Nat} (hf : f ≤ P.2.length) : ipC sc (d + 1) 97 [.ref M, .int (nI p), .int (nI f)] h z 0 0 (qI (nI (lSt P.2 f)) h z) := by
  refine ipC_mk [some (.ref M), some (.int (nI p)), some (.int (nI f)), none, none] rfl (Nat.le_of_ble_eq_true rfl) (c97_0 ?_)
  have hb := HR.2.2.2.2.2
  have hb2 := hb.2.1
  have loop : ∀ n k, k + n = f → ip sc (ipC sc d) 97 0 0 (qI (nI (lSt P.2 f)) h z) 5 [some (.ref M), some (.int (nI p)), some (.int (nI f)), some (.int (nI (lSt P.2 k))), some (.int (nI k))] [] h z 0 0 := by
    intro n
    induction n with
    | zero =>
      intro k hk
      refine c97_5 (by omega) (by omega) (fun _ => c97_32 ?_) (fun q => absurd (show f ≤ k by omega) q)
      rw [show k = f by omega]
      exact ⟨rfl, rfl, rfl⟩
    | succ n ih =>
      intro k hk
      refine c97_5 (by omega) (by omega) (fun q => absurd q (by omega)) (fun _ => ?_)
      obtain ⟨F, hF⟩ := gt_some (l := P.2) (i := k) (by omega)
      refine c97_11 H.1 H.2.1 H.2.2 (by omega) (by decide) (HR.fl hF) ?_
      rw [← lSt_s hF]
      exact ih (k + 1) (by omega)
  have := loop f 0 (by omega)
  rw [lSt_0] at this
  exact this
theorem t_cornersOf (H : mdA h M fs al) (HR : rowIs al p P) (hp : p + 332 ≤ 52000) {w : Nat} (hf : w ≤ (pW P).length) : ipC sc (d + 1) 98 [.ref M, .int (nI p), .int (nI w)] h z 0 0 (qI (nI (p + 132 + lSt (pW P) w)) h z) := by
  refine ipC_mk [some (.ref M), some (.int (nI p)), some (.int (nI w)), none, none] rfl (Nat.le_of_ble_eq_true rfl) (c98_0 ?_)
  have hb := HR.2.2.2.2.2
  have hb2 := hb.2.2.1
  have loop : ∀ n k, k + n = w → ip sc (ipC sc d) 98 0 0 (qI (nI (p + 132 + lSt (pW P) w)) h z) 9 [some (.ref M), some (.int (nI p)), some (.int (nI w)), some (.int (nI (p + 132 + lSt (pW P) k))), some (.int (nI k))] [] h z 0 0 := by
    intro n
    induction n with
    | zero =>
      intro k hk
      refine c98_9 (by omega) (by omega) (fun _ => c98_36 ?_) (fun q => absurd (show w ≤ k by omega) q)
      rw [show k = w by omega]
      exact ⟨rfl, rfl, rfl⟩
    | succ n ih =>
      intro k hk
      refine c98_9 (by omega) (by omega) (fun q => absurd q (by omega)) (fun _ => ?_)
      obtain ⟨F, hF⟩ := gt_some (l := pW P) (i := k) (by omega)
      refine c98_15 H.1 H.2.1 H.2.2 (by omega) (by decide) (HR.wl hF) ?_
      rw [Nat.add_assoc (p + 132), ← lSt_s hF]
      exact ih (k + 1) (by omega)
  have := loop w 0 (by omega)
  rw [lSt_0] at this
  exact this
theorem t_spotAt (H : mdA h M fs al) (HR : rowIs al p P) (hp : p + 332 ≤ 52000) {f u i a : Nat} {F : List (List Nat)} {x : List Nat} (hf : P.2[f]? = some F) (hu : F[u]? = some x) (hi : x[i]? = some a) : ipC sc (d + 2) 105 [.ref M, .int (nI p), .int (nI f), .int (nI u), .int (nI i)] h z 0 0 (qI (nI a) h z) := by
  have hlf := lt_some hf
  have hw : (pW P)[lSt P.2 f + u]? = some x := lSt_at hf hu
  have hlw := lt_some hw
  have hc : (pC P)[lSt (pW P) (lSt P.2 f + u) + i]? = some a := lSt_at hw hi
  have hlc := lt_some hc
  have hb := HR.2.2.2.2.2.2.2.2
  refine ipC_mk [some (.ref M), some (.int (nI p)), some (.int (nI f)), some (.int (nI u)), some (.int (nI i))] rfl (Nat.le_of_ble_eq_true rfl) ?_
  refine c105_0 H.1 H.2.1 (Nat.zero_le _) (Nat.zero_le _) (t_wallOf H HR hp (by omega)) (kI ?_)
  refine c105_12 H.1 (Nat.zero_le _) (Nat.zero_le _) (t_cornersOf H HR hp (by omega)) (kI ?_)
  refine c105_17 H.2.2 (by omega) (by decide) (v6 := a) ?_ ⟨rfl, rfl, rfl⟩
  rw [Nat.add_assoc (p + 132)]
  exact HR.co hc
/-- two corners can be joined -/
def cM (lv : List Nat) (a b : Nat) : Bool := decide ((if a = b then 1 else 0) < lv.getD a 0) && decide (0 < lv.getD b 0)
theorem t_can (H : mdA h M fs al) (HR : rowIs al p P) (hp : p + 332 ≤ 52000) {f u i v j a b la lb : Nat} {F : List (List Nat)} {x y : List Nat} (hf : P.2[f]? = some F) (hu : F[u]? = some x) (hi : x[i]? = some a) (hv : F[v]? = some y) (hj : y[j]? = some b) (ha : P.1[a]? = some la) (hb : P.1[b]? = some lb) (hla : la ≤ 3) (hlb : lb ≤ 3) : ipC sc (d + 3) 106 [.ref M, .int (nI p), .int (nI f), .int (nI u), .int (nI i), .int (nI v), .int (nI j)] h z 0 0 (qI (nI (cM P.1 a b).toNat) h z) := by
  have hla2 := lt_some ha
  have hlb2 := lt_some hb
  have hB := HR.2.2.2.2.2.1
  refine ipC_mk [some (.ref M), some (.int (nI p)), some (.int (nI f)), some (.int (nI u)), some (.int (nI i)), some (.int (nI v)), some (.int (nI j)), none, none] rfl (Nat.le_of_ble_eq_true rfl) ?_
  refine c106_0 H.1 (Nat.zero_le _) (Nat.zero_le _) (t_spotAt H HR hp hf hu hi) (kI ?_)
  refine c106_9 H.1 (Nat.zero_le _) (Nat.zero_le _) (t_spotAt H HR hp hf hv hj) (kI ?_)
  refine c106_21 H.1 H.2.1 H.2.2 (by omega) (by decide) (HR.li ha) (by omega) (by omega) (fun hab => c106_45 ?_) (fun hab => c106_41 ?_)
  · have e1 : cM P.1 a b = (decide (0 < la) && decide (0 < lb)) := by
      unfold cM
      rw [if_neg hab, List.getD_eq_getElem?_getD, List.getD_eq_getElem?_getD, ha, hb]
      rfl
    rw [e1]
    refine c106_46 (by omega) (by decide) (fun q => c106_67 (c106_68 rfl ⟨?_, rfl, rfl⟩)) (fun q => ?_)
    · rw [show la = 0 by omega]; rfl
    · refine c106_49 H.1 H.2.1 H.2.2 (by omega) (by decide) (HR.li hb) (by omega) (fun q2 => c106_67 (c106_68 rfl ⟨?_, rfl, rfl⟩)) (fun q2 => c106_63 (c106_68 rfl ⟨?_, rfl, rfl⟩))
      · rw [show lb = 0 by omega, Bool.and_comm]; rfl
      · rw [decide_eq_true (show 0 < la by omega), decide_eq_true (show 0 < lb by omega)]; rfl
  · have hab : a = b := Classical.not_not.mp hab
    subst hab
    have : la = lb := Option.some.inj (ha.symm.trans hb)
    subst this
    have e1 : cM P.1 a a = (decide (1 < la) && decide (0 < la)) := by
      unfold cM
      rw [if_pos rfl, List.getD_eq_getElem?_getD, ha]
      rfl
    rw [e1]
    refine c106_46 (by omega) (by decide) (fun q => c106_67 (c106_68 rfl ⟨?_, rfl, rfl⟩)) (fun q => ?_)
    · rw [decide_eq_false (show ¬ 1 < la by omega)]; rfl
    · refine c106_49 H.1 H.2.1 H.2.2 (by omega) (by decide) (HR.li hb) (by omega) (fun q2 => c106_67 (c106_68 rfl ⟨?_, rfl, rfl⟩)) (fun q2 => c106_63 (c106_68 rfl ⟨?_, rfl, rfl⟩))
      · rw [show la = 0 by omega]; rfl
      · rw [decide_eq_true (show 1 < la by omega), decide_eq_true (show 0 < la by omega)]; rfl
end REF

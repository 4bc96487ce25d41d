/-! the reference makes a move: a new row -/
def rnd (lv x : List Nat) (i : Nat) : List Nat := x.drop i ++ (if lv.getD (x.getD i 0) 0 = 3 then [] else x.take (i + 1))
def bst (al a2 : Nat → Int32) (p q : Nat) (P Q : PosT) : Prop := rowIs a2 p P ∧ rowIs a2 q Q ∧ eqOff q al a2
def far (p q : Nat) : Prop := (p + 332 ≤ q ∨ q + 332 ≤ p) ∧ p + 332 ≤ 52000 ∧ q + 332 ≤ 52000
section REF
variable {sc : ipSc} {d z M p q : Nat} {h : HP} {fs : List Value} {al a1 : Nat → Int32} {P : PosT} {lv : List Nat} {F : List (List (List Nat))} {X : List (List Nat)} {C : List Nat}
theorem qW_up {md : Nat} {vs : List Value} {R R2 : (Nat → Int32) → Prop} (hR : ∀ a, R a → R2 a) (hc : ipC sc d md vs (mA h M a1) z 0 0 (qW (mA h M a1) M z R)) : ipC sc d md vs (mA h M a1) z 0 0 (qW h M z R2) := by
  refine ipC_mono ?_ hc
  rintro o h2 z2 ⟨e1, e2, a2, e3, hr⟩
  exact ⟨e1, e2, a2, e3.trans mA_mA, hR a2 hr⟩
theorem bst.nx {a2 : Nat → Int32} {Q Q2 : PosT} (hd : far p q) (B : bst al a1 p q P Q) (h2 : rowIs a2 q Q2 ∧ eqOff q a1 a2) : bst al a2 p q P Q2 := ⟨B.1.offq h2.2 hd.1, h2.1, B.2.2.tr h2.2⟩
theorem o_addField (H : mdA h M fs al) (hd : far p q) (B : bst al a1 p q P (lv, F)) (hb : F.length + 1 ≤ 32) : ipC sc (d + 1) 100 [.ref M, .int (nI q)] (mA h M a1) z 0 0 (qW h M z (fun a2 => bst al a2 p q P (lv, F ++ [[]]))) := qW_up (fun _ => B.nx hd) (t_addField H.put hd.2.2 B.2.1 hb)
theorem o_addWall (H : mdA h M fs al) (hd : far p q) (B : bst al a1 p q P (lv, F ++ [X])) (hb : F.flatten.length + X.length + 1 ≤ 64) : ipC sc (d + 1) 99 [.ref M, .int (nI q)] (mA h M a1) z 0 0 (qW h M z (fun a2 => bst al a2 p q P (lv, F ++ [X ++ [[]]]))) := qW_up (fun _ => B.nx hd) (t_addWall H.put hd.2.2 B.2.1 hb)
theorem o_addCorner (H : mdA h M fs al) (hd : far p q) (B : bst al a1 p q P (lv, F ++ [X ++ [C]])) (hb : F.flatten.flatten.length + (X.flatten.length + C.length) + 1 ≤ 200) (a : Nat) : ipC sc (d + 1) 101 [.ref M, .int (nI q), .int (nI a)] (mA h M a1) z 0 0 (qW h M z (fun a2 => bst al a2 p q P (lv, F ++ [X ++ [C ++ [a]]]))) := qW_up (fun _ => B.nx hd) (t_addCorner H.put hd.2.2 B.2.1 hb a)
theorem o_cornersOf (H : mdA h M fs al) (hd : far p q) {Q : PosT} (B : bst al a1 p q P Q) {w : Nat} (hf : w ≤ (pW P).length) : ipC sc (d + 1) 98 [.ref M, .int (nI p), .int (nI w)] (mA h M a1) z 0 0 (qI (nI (p + 132 + lSt (pW P) w)) (mA h M a1) z) := t_cornersOf H.put B.1 hd.2.1 hf
theorem qW_i {Q : PosT} (B : bst al a1 p q P Q) : qW h M z (fun a2 => bst al a2 p q P Q) none (mA h M a1) z := ⟨rfl, rfl, a1, rfl, B⟩
theorem o_copyCorners (H : mdA h M fs al) (hd : far p q) (B : bst al a1 p q P (lv, F ++ [X ++ [C]])) {w i j : Nat} {x : List Nat} (hw : (pW P)[w]? = some x) (hj : j < x.length) (hij : i ≤ j + 1) (hb : F.flatten.flatten.length + (X.flatten.length + C.length) + (j + 1 - i) ≤ 200) : ipC sc (d + 2) 103 [.ref M, .int (nI p), .int (nI w), .int (nI i), .int (nI j), .int (nI q)] (mA h M a1) z 0 0 (qW h M z (fun a2 => bst al a2 p q P (lv, F ++ [X ++ [C ++ (x.drop i).take (j + 1 - i)]]))) := by
  have hlw := lt_some hw
  have hB := B.1.2.2.2.2.2
  have hxl : lSt (pW P) w + x.length ≤ 200 := by
    have e1 := lSt_s hw
    have e2 := lSt_le (l := pW P) (f := w + 1)
    have e3 : (pC P).length ≤ 200 := hB.2.2.2
    have e4 : (pW P).flatten.length = (pC P).length := rfl
    omega
  have h1 := hd.2.1
  have h2 := hd.2.2
  refine ipC_mk [some (.ref M), some (.int (nI p)), some (.int (nI w)), some (.int (nI i)), some (.int (nI j)), some (.int (nI q)), none, none] rfl (Nat.le_of_ble_eq_true rfl) ?_
  refine c103_0 H.put.1 (Nat.zero_le _) (Nat.zero_le _) (o_cornersOf H hd B (by omega)) (kI (c103_6 ?_))
  have loop : ∀ n k a, i ≤ k → k + n = j + 1 → bst al a p q P (lv, F ++ [X ++ [C ++ (x.drop i).take (k - i)]]) → ip sc (ipC sc (d + 1)) 103 0 0 (qW h M z (fun a2 => bst al a2 p q P (lv, F ++ [X ++ [C ++ (x.drop i).take (j + 1 - i)]]))) 11 [some (.ref M), some (.int (nI p)), some (.int (nI w)), some (.int (nI i)), some (.int (nI j)), some (.int (nI q)), some (.int (nI (p + 132 + lSt (pW P) w))), some (.int (nI k))] [] (mA h M a) z 0 0 := by
    intro n
    induction n with
    | zero =>
      intro k a hik hk B
      refine c103_11 (by omega) (by omega) (fun _ => c103_40 ?_) (fun q => absurd (show j < k by omega) q)
      rw [← show k = j + 1 by omega]
      exact qW_i B
    | succ n ih =>
      intro k a hik hk B
      have hkj : k + (n + 1) = j + 1 := by omega
      refine c103_11 (by omega) (by omega) (fun q => absurd q (by omega)) (fun _ => ?_)
      obtain ⟨y, hy⟩ := gt_some (l := x) (i := k) (by omega)
      have hco : (pC P)[lSt (pW P) w + k]? = some y := lSt_at hw hy
      have hl : ((x.drop i).take (k - i)).length = k - i := by rw [List.length_take, List.length_drop]; omega
      refine c103_18 H.put.1 H.2.1 H.put.2.2 (by omega) (by decide) (v9 := y) (by rw [Nat.add_assoc (p + 132)]; exact B.1.co hco) (Nat.zero_le _) (Nat.zero_le _) (o_addCorner H hd B (by rw [List.length_append, hl]; omega) y) (kW fun a2 B2 => c103_34 ?_)
      refine ih (k + 1) a2 (by omega) (by omega) ?_
      have e : (x.drop i).take (k + 1 - i) = (x.drop i).take (k - i) ++ [y] := by
        rw [show k + 1 - i = (k - i) + 1 by omega, List.take_succ, List.getElem?_drop, show i + (k - i) = k by omega, hy]
        rfl
      rw [e, ← List.append_assoc]
      exact B2
  refine loop (j + 1 - i) i a1 (Nat.le_refl _) (by omega) ?_
  rw [Nat.sub_self, List.take_zero, List.append_nil]
  exact B
theorem o_copyWall (H : mdA h M fs al) (hd : far p q) (B : bst al a1 p q P (lv, F ++ [X])) {w : Nat} {x : List Nat} (hw : (pW P)[w]? = some x) (hb : F.flatten.length + X.length + 1 ≤ 64) (hb2 : F.flatten.flatten.length + X.flatten.length + x.length ≤ 200) : ipC sc (d + 2) 102 [.ref M, .int (nI p), .int (nI w), .int (nI q)] (mA h M a1) z 0 0 (qW h M z (fun a2 => bst al a2 p q P (lv, F ++ [X ++ [x]]))) := by
  have hlw := lt_some hw
  have hB := B.1.2.2.2.2.2
  have hB1 := hB.2.2.1
  have hxl : lSt (pW P) w + x.length ≤ 200 := by
    have e1 := lSt_s hw
    have e2 := lSt_le (l := pW P) (f := w + 1)
    have e3 : (pC P).length ≤ 200 := hB.2.2.2
    have e4 : (pW P).flatten.length = (pC P).length := rfl
    omega
  have h1 := hd.2.1
  have h2 := hd.2.2
  refine ipC_mk [some (.ref M), some (.int (nI p)), some (.int (nI w)), some (.int (nI q)), none, none] rfl (Nat.le_of_ble_eq_true rfl) ?_
  refine c102_0 H.put.1 (Nat.zero_le _) (Nat.zero_le _) (o_addWall H hd B hb) (kW fun a2 B2 => ?_)
  refine c102_5 H.put.1 (Nat.zero_le _) (Nat.zero_le _) (o_cornersOf H hd B2 (by omega)) (kI (c102_11 ?_))
  have loop : ∀ n k a, k + n = x.length → bst al a p q P (lv, F ++ [X ++ [x.take k]]) → ip sc (ipC sc (d + 1)) 102 0 0 (qW h M z (fun a2 => bst al a2 p q P (lv, F ++ [X ++ [x]]))) 16 [some (.ref M), some (.int (nI p)), some (.int (nI w)), some (.int (nI q)), some (.int (nI (p + 132 + lSt (pW P) w))), some (.int (nI k))] [] (mA h M a) z 0 0 := by
    intro n
    induction n with
    | zero =>
      intro k a hk B
      refine c102_16 H.put.1 H.2.1 H.put.2.2 (by omega) (by decide) (B.1.wl hw) (by omega) (by omega) (fun _ => c102_53 ?_) (fun q => absurd (show x.length ≤ k by omega) q)
      rw [List.take_of_length_le (by omega)] at B
      exact qW_i B
    | succ n ih =>
      intro k a hk B
      refine c102_16 H.put.1 H.2.1 H.put.2.2 (by omega) (by decide) (B.1.wl hw) (by omega) (by omega) (fun q => absurd q (by omega)) (fun _ => ?_)
      obtain ⟨y, hy⟩ := gt_some (l := x) (i := k) (by omega)
      have hco : (pC P)[lSt (pW P) w + k]? = some y := lSt_at hw hy
      refine c102_32 H.put.1 H.2.1 H.put.2.2 (by omega) (by decide) (v9 := y) (by rw [Nat.add_assoc (p + 132)]; exact B.1.co hco) (Nat.zero_le _) (Nat.zero_le _) (o_addCorner H hd B (by rw [List.length_take]; omega) y) (kW fun a2 B2 => c102_47 ?_)
      refine ih (k + 1) a2 (by omega) ?_
      rw [List.take_succ, hy]
      exact B2
  refine loop x.length 0 a2 (by omega) ?_
  rw [List.take_zero]
  exact B2
theorem o_round (H : mdA h M fs al) (hd : far p q) (B : bst al a1 p q P (lv, F ++ [X ++ [C]])) {w i a la : Nat} {x : List Nat} (hw : (pW P)[w]? = some x) (hi : x[i]? = some a) (ha : P.1[a]? = some la) (hla : la ≤ 3) (hb : F.flatten.flatten.length + (X.flatten.length + C.length) + (rnd P.1 x i).length ≤ 200) : ipC sc (d + 3) 104 [.ref M, .int (nI p), .int (nI w), .int (nI i), .int (nI q)] (mA h M a1) z 0 0 (qW h M z (fun a2 => bst al a2 p q P (lv, F ++ [X ++ [C ++ rnd P.1 x i]]))) := by
  have hlw := lt_some hw
  have hli := lt_some hi
  have hla2 := lt_some ha
  have hB := B.1.2.2.2.2.2
  have hB1 := hB.2.2.1
  have hB0 := hB.1
  have hxl : lSt (pW P) w + x.length ≤ 200 := by
    have e1 := lSt_s hw
    have e2 := lSt_le (l := pW P) (f := w + 1)
    have e3 : (pC P).length ≤ 200 := hB.2.2.2
    have e4 : (pW P).flatten.length = (pC P).length := rfl
    omega
  have h1 := hd.2.1
  have h2 := hd.2.2
  have hco : (pC P)[lSt (pW P) w + i]? = some a := lSt_at hw hi
  have hdr : (x.drop i).take (x.length - 1 + 1 - i) = x.drop i := List.take_of_length_le (by rw [List.length_drop]; omega)
  have hg : P.1.getD (x.getD i 0) 0 = la := by rw [List.getD_eq_getElem?_getD (l := x), hi, Option.getD_some, List.getD_eq_getElem?_getD, ha, Option.getD_some]
  have hrl : (rnd P.1 x i).length = (x.length - i) + (if la = 3 then 0 else i + 1) := by
    unfold rnd
    rw [hg, List.length_append, List.length_drop]
    by_cases e : la = 3
    · rw [if_pos e, if_pos e]; rfl
    · rw [if_neg e, if_neg e, List.length_take]; omega
  refine ipC_mk [some (.ref M), some (.int (nI p)), some (.int (nI w)), some (.int (nI i)), some (.int (nI q)), none, none] rfl (Nat.le_of_ble_eq_true rfl) ?_
  refine c104_0 H.put.1 H.2.1 H.put.2.2 (by omega) (by decide) (B.1.wl hw) (Nat.zero_le _) (Nat.zero_le _) (o_cornersOf H hd B (by omega)) (kI ?_)
  have hc1 := o_copyCorners (sc := sc) (d := d) (z := z) (i := i) H hd B hw (j := x.length - 1) (by omega) (by omega) (by rw [hrl] at hb; omega)
  refine c104_23 H.put.2.2 (by omega) (by decide) (v6 := a) (by rw [Nat.add_assoc (p + 132)]; exact B.1.co hco) (by omega) H.put.1 (Nat.zero_le _) (Nat.zero_le _) hc1 (kW fun a2 B2 => ?_)
  rw [hdr] at B2
  refine c104_41 H.put.1 H.2.1 H.put.2.2 (by omega) (by decide) (B2.1.li ha) (by omega) (fun hne => ?_) (fun he => c104_56 ?_)
  · rw [if_neg hne] at hrl
    have hc2 := o_copyCorners (sc := sc) (d := d) (z := z) (i := 0) H hd B2 hw (j := i) (by omega) (by omega) (by rw [List.length_append, List.length_drop]; omega)
    refine c104_57 H.put.1 (Nat.zero_le _) (Nat.zero_le _) hc2 (kW fun a3 B3 => c104_67 ?_)
    have e : rnd P.1 x i = x.drop i ++ (x.drop 0).take (i + 1 - 0) := by
      unfold rnd
      rw [hg, if_neg hne]
      rfl
    rw [e, ← List.append_assoc]
    exact qW_i B3
  · have he : la = 3 := Classical.not_not.mp he
    have e : rnd P.1 x i = x.drop i := by
      unfold rnd
      rw [hg, if_pos he, List.append_nil]
    rw [e]
    exact qW_i B2
end REF

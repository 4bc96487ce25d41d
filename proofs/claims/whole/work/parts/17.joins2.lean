/-! the reference makes a move: fields -/
def othA (side which u : Nat) : List (List Nat) → Nat → Nat → List (List Nat)
  | [], _, _ => []
  | x :: F, k, bit => if k = u then othA side which u F (k + 1) bit else if side / 2 ^ bit % 2 = which then x :: othA side which u F (k + 1) (bit + 1) else othA side which u F (k + 1) (bit + 1)
def mrgA (u v : Nat) (W : List Nat) : List (List Nat) → Nat → List (List Nat)
  | [], _ => []
  | x :: F, k => if k = u then W :: mrgA u v W F (k + 1) else if k = v then mrgA u v W F (k + 1) else x :: mrgA u v W F (k + 1)
theorem drop_cons {α : Type} {l : List α} {k : Nat} {x : α} (h : l[k]? = some x) : l.drop k = x :: l.drop (k + 1) := by
  obtain ⟨h1, h2⟩ := List.getElem?_eq_some_iff.mp h
  rw [List.drop_eq_getElem_cons h1, h2]
theorem sm32 : ∀ n, n < 32 → ((nI n &&& 31).toBitVec.smod 32).toNat = n := by decide +kernel
theorem bitN {a b : Nat} (ha : a < 2147483648) (hb : b < 32) : ((nI a) >>> ((nI b) &&& 31)) &&& (nI 1) = nI (a / 2 ^ b % 2) := by
  rw [pk_shrN ha _ b (sm32 b hb), pk_andN (n := a / 2 ^ b) (Nat.lt_of_le_of_lt (Nat.div_le_self _ _) (by omega)) 1 (by decide)]
section REF
variable {sc : ipSc} {d z M p q : Nat} {h : HP} {fs : List Value} {al a1 : Nat → Int32} {P : PosT} {lv : List Nat} {F : List (List (List Nat))} {X : List (List Nat)} {C : List Nat}
theorem app_le {X Y T : List (List Nat)} (h : X ++ Y = T) : X.length + Y.length = T.length ∧ X.flatten.length + Y.flatten.length = T.flatten.length := by
  subst h
  rw [List.length_append, List.flatten_append, List.length_append]
  exact ⟨rfl, rfl⟩
theorem o_others (H : mdA h M fs al) (hd : far p q) (B : bst al a1 p q P (lv, F ++ [X])) {w u side which : Nat} {Fd T : List (List Nat)} (hF : ∀ k x, Fd[k]? = some x → (pW P)[w + k]? = some x) (hl : Fd.length ≤ 31) (hs : side < 2147483648) (hwh : which < 2) (hu : u < 2147483648) (hT : X ++ othA side which u Fd 0 0 = T) (hb : F.flatten.length + T.length ≤ 64) (hb2 : F.flatten.flatten.length + T.flatten.length ≤ 200) : ipC sc (d + 3) 111 [.ref M, .int (nI p), .int (nI q), .int (nI w), .int (nI Fd.length), .int (nI u), .int (nI side), .int (nI which)] (mA h M a1) z 0 0 (qW h M z (fun a2 => bst al a2 p q P (lv, F ++ [T]))) := by
  refine ipC_mk [some (.ref M), some (.int (nI p)), some (.int (nI q)), some (.int (nI w)), some (.int (nI Fd.length)), some (.int (nI u)), some (.int (nI side)), some (.int (nI which)), none, none] rfl (Nat.le_of_ble_eq_true rfl) (c111_0 ?_)
  have loop : ∀ n k bit a Xk, k + n = Fd.length → bit ≤ k → Xk ++ othA side which u (Fd.drop k) k bit = T → bst al a p q P (lv, F ++ [Xk]) → ip sc (ipC sc (d + 2)) 111 0 0 (qW h M z (fun a2 => bst al a2 p q P (lv, F ++ [T]))) 6 [some (.ref M), some (.int (nI p)), some (.int (nI q)), some (.int (nI w)), some (.int (nI Fd.length)), some (.int (nI u)), some (.int (nI side)), some (.int (nI which)), some (.int (nI bit)), some (.int (nI k))] [] (mA h M a) z 0 0 := by
    intro n
    induction n with
    | zero =>
      intro k bit a Xk hk hbk hX B
      refine c111_6 (by omega) (by omega) (fun _ => c111_54 ?_) (fun q => absurd (show Fd.length ≤ k by omega) q)
      rw [List.drop_eq_nil_of_le (by omega)] at hX
      simp only [othA, List.append_nil] at hX
      subst hX
      exact qW_i B
    | succ n ih =>
      intro k bit a Xk hk hbk hX B
      refine c111_6 (by omega) (by omega) (fun q => absurd q (by omega)) (fun _ => ?_)
      obtain ⟨x, hx⟩ := gt_some (l := Fd) (i := k) (by omega)
      rw [drop_cons hx] at hX
      unfold othA at hX
      refine c111_13 (by omega) (by omega) (fun hne => ?_) (fun he => ?_)
      · rw [if_neg hne] at hX
        have hbn := bitN (a := side) (b := bit) hs (by omega)
        refine c111_23 (fun hn => c111_45 (c111_48 ?_)) (fun hn => ?_)
        · rw [hbn, nI_eq (by omega) (by omega)] at hn
          rw [if_neg hn] at hX
          exact ih (k + 1) (bit + 1) a Xk (by omega) (by omega) hX B
        · have hn := Classical.not_not.mp hn
          rw [hbn, nI_eq (by omega) (by omega)] at hn
          rw [if_pos hn] at hX
          have hle := app_le hX
          rw [List.length_cons, List.flatten_cons, List.length_append] at hle
          refine c111_35 H.put.1 (Nat.zero_le _) (Nat.zero_le _) (o_copyWall H hd B (hF k x hx) (by omega) (by omega)) (kW fun a2 B2 => c111_45 (c111_48 ?_))
          refine ih (k + 1) (bit + 1) a2 (Xk ++ [x]) (by omega) (by omega) ?_ B2
          rw [List.append_assoc]
          exact hX
      · have he := Classical.not_not.mp he
        rw [if_pos he] at hX
        exact c111_20 (c111_48 (ih (k + 1) bit a Xk (by omega) (by omega) hX B))
  refine loop Fd.length 0 0 a1 X (by omega) (by omega) ?_ B
  rw [List.drop_zero]
  exact hT
theorem o_first (H : mdA h M fs al) (hd : far p q) (B : bst al a1 p q P (lv, F ++ [[]])) {w u i j c side : Nat} {Fd T : List (List Nat)} {x : List Nat} (hF : ∀ k x, Fd[k]? = some x → (pW P)[w + k]? = some x) (hl : Fd.length ≤ 31) (hs : side < 2147483648) (hu : Fd[u]? = some x) (hj : j < x.length) (hij : i ≤ j) (hT : ((x.drop i).take (j + 1 - i) ++ [c]) :: othA side 0 u Fd 0 0 = T) (hb : F.flatten.length + T.length ≤ 64) (hb2 : F.flatten.flatten.length + T.flatten.length ≤ 200) : ipC sc (d + 4) 110 [.ref M, .int (nI p), .int (nI q), .int (nI w), .int (nI Fd.length), .int (nI u), .int (nI i), .int (nI j), .int (nI c), .int (nI side)] (mA h M a1) z 0 0 (qW h M z (fun a2 => bst al a2 p q P (lv, F ++ [T]))) := by
  have hlu := lt_some hu
  have hle := app_le (X := [(x.drop i).take (j + 1 - i) ++ [c]]) hT
  have hl0 : ((x.drop i).take (j + 1 - i)).length = j + 1 - i := by rw [List.length_take, List.length_drop]; omega
  rw [List.length_cons, List.flatten_cons, List.length_append, List.length_append, hl0] at hle
  simp only [List.length_nil, List.length_cons, List.flatten_nil] at hle
  refine ipC_mk [some (.ref M), some (.int (nI p)), some (.int (nI q)), some (.int (nI w)), some (.int (nI Fd.length)), some (.int (nI u)), some (.int (nI i)), some (.int (nI j)), some (.int (nI c)), some (.int (nI side))] rfl (Nat.le_of_ble_eq_true rfl) ?_
  refine c110_0 H.put.1 (Nat.zero_le _) (Nat.zero_le _) (o_addWall H hd B (by rw [List.length_nil]; omega)) (kW fun a2 B2 => ?_)
  refine c110_5 H.put.1 (Nat.zero_le _) (Nat.zero_le _) (o_copyCorners H hd B2 (hF u x hu) hj (by omega) (by simp only [List.flatten_nil, List.length_nil]; omega)) (kW fun a3 B3 => ?_)
  have B3 : bst al a3 p q P (lv, F ++ [[] ++ [(x.drop i).take (j + 1 - i)]]) := B3
  refine c110_19 H.put.1 (Nat.zero_le _) (Nat.zero_le _) (o_addCorner H hd B3 (by rw [hl0]; simp only [List.flatten_nil, List.length_nil]; omega) c) (kW fun a4 B4 => ?_)
  refine c110_26 H.put.1 (Nat.zero_le _) (Nat.zero_le _) (o_others H hd B4 hF hl hs (by decide) (by omega) hT hb hb2) (kW fun a5 B5 => c110_40 (qW_i B5))
theorem rnd_len {lv x : List Nat} {i : Nat} (hi : i < x.length) : (rnd lv x i).length ≤ x.length + 1 := by
  unfold rnd
  rw [List.length_append, List.length_drop]
  split
  · rw [List.length_nil]; omega
  · rw [List.length_take]; omega
theorem o_merges (H : mdA h M fs al) (hd : far p q) (B : bst al a1 p q P (lv, F ++ [[]])) {w u i v j c a b la lb : Nat} {Fd T : List (List Nat)} {x y : List Nat} (hF : ∀ k x, Fd[k]? = some x → (pW P)[w + k]? = some x) (hl : Fd.length ≤ 31) (hu : Fd[u]? = some x) (hv : Fd[v]? = some y) (hi : x[i]? = some a) (hj : y[j]? = some b) (ha : P.1[a]? = some la) (hb0 : P.1[b]? = some lb) (hla : la ≤ 3) (hlb : lb ≤ 3) (hT : mrgA u v (rnd P.1 x i ++ [c] ++ rnd P.1 y j ++ [c]) Fd 0 = T) (hb : F.flatten.length + T.length ≤ 64) (hb2 : F.flatten.flatten.length + T.flatten.length ≤ 200) : ipC sc (d + 4) 109 [.ref M, .int (nI p), .int (nI q), .int (nI w), .int (nI Fd.length), .int (nI u), .int (nI i), .int (nI v), .int (nI j), .int (nI c)] (mA h M a1) z 0 0 (qW h M z (fun a2 => bst al a2 p q P (lv, F ++ [T]))) := by
  have hlu := lt_some hu
  have hlv := lt_some hv
  refine ipC_mk [some (.ref M), some (.int (nI p)), some (.int (nI q)), some (.int (nI w)), some (.int (nI Fd.length)), some (.int (nI u)), some (.int (nI i)), some (.int (nI v)), some (.int (nI j)), some (.int (nI c)), none] rfl (Nat.le_of_ble_eq_true rfl) (c109_0 ?_)
  have loop : ∀ n k a0 Xk, k + n = Fd.length → Xk ++ mrgA u v (rnd P.1 x i ++ [c] ++ rnd P.1 y j ++ [c]) (Fd.drop k) k = T → bst al a0 p q P (lv, F ++ [Xk]) → ip sc (ipC sc (d + 3)) 109 0 0 (qW h M z (fun a2 => bst al a2 p q P (lv, F ++ [T]))) 3 [some (.ref M), some (.int (nI p)), some (.int (nI q)), some (.int (nI w)), some (.int (nI Fd.length)), some (.int (nI u)), some (.int (nI i)), some (.int (nI v)), some (.int (nI j)), some (.int (nI c)), some (.int (nI k))] [] (mA h M a0) z 0 0 := by
    intro n
    induction n with
    | zero =>
      intro k a0 Xk hk hX B
      refine c109_3 (by omega) (by omega) (fun _ => c109_86 ?_) (fun q => absurd (show Fd.length ≤ k by omega) q)
      rw [List.drop_eq_nil_of_le (by omega)] at hX
      simp only [mrgA, List.append_nil] at hX
      subst hX
      exact qW_i B
    | succ n ih =>
      intro k a0 Xk hk hX B
      refine c109_3 (by omega) (by omega) (fun q => absurd q (by omega)) (fun _ => ?_)
      obtain ⟨xk, hx⟩ := gt_some (l := Fd) (i := k) (by omega)
      rw [drop_cons hx] at hX
      unfold mrgA at hX
      refine c109_10 (by omega) (by omega) (fun hne => ?_) (fun he => ?_)
      · rw [if_neg hne] at hX
        refine c109_63 (by omega) (by omega) (fun he => c109_80 ?_) (fun hnv => ?_)
        · rw [if_pos he] at hX
          exact ih (k + 1) a0 Xk (by omega) hX B
        · rw [if_neg hnv] at hX
          have hle := app_le hX
          rw [List.length_cons, List.flatten_cons, List.length_append] at hle
          refine c109_70 H.put.1 (Nat.zero_le _) (Nat.zero_le _) (o_copyWall H hd B (hF k xk hx) (by omega) (by omega)) (kW fun a2 B2 => c109_80 ?_)
          refine ih (k + 1) a2 (Xk ++ [xk]) (by omega) ?_ B2
          rw [List.append_assoc]
          exact hX
      · have he := Classical.not_not.mp he
        rw [if_pos he] at hX
        have hle := app_le hX
        rw [List.length_cons, List.flatten_cons, List.length_append] at hle
        simp only [List.length_append, List.length_cons, List.length_nil] at hle
        refine c109_17 H.put.1 (Nat.zero_le _) (Nat.zero_le _) (o_addWall H hd B (by omega)) (kW fun a2 B2 => ?_)
        refine c109_22 H.put.1 (Nat.zero_le _) (Nat.zero_le _) (o_round H hd B2 (hF u x hu) hi ha hla (by rw [List.length_nil]; omega)) (kW fun a3 B3 => ?_)
        rw [List.nil_append] at B3
        refine c109_34 H.put.1 (Nat.zero_le _) (Nat.zero_le _) (o_addCorner H hd B3 (by omega) c) (kW fun a4 B4 => ?_)
        refine c109_41 H.put.1 (Nat.zero_le _) (Nat.zero_le _) (o_round H hd B4 (hF v y hv) hj hb0 hlb (by simp only [List.length_append, List.length_cons, List.length_nil]; omega)) (kW fun a5 B5 => ?_)
        refine c109_53 H.put.1 (Nat.zero_le _) (Nat.zero_le _) (o_addCorner H hd B5 (by simp only [List.length_append, List.length_cons, List.length_nil]; omega) c) (kW fun a6 B6 => c109_60 (c109_80 ?_))
        refine ih (k + 1) a6 (Xk ++ [rnd P.1 x i ++ [c] ++ rnd P.1 y j ++ [c]]) (by omega) ?_ B6
        rw [List.append_assoc]
        exact hX
  refine loop Fd.length 0 a1 [] (by omega) ?_ B
  rw [List.drop_zero]
  exact hT
end REF

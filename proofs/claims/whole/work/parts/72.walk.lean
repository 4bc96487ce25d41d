/-! the class's Namer: walk -/
def stp (n way a : Nat) : Nat := if way = 0 then (if a + 1 < n then a + 1 else 0) else (if 0 < a then a - 1 else n - 1)
def atF (n s way : Nat) : Nat → Nat
  | 0 => s
  | k + 1 => stp n way (atF n s way k)
def rotW (x : List Nat) (s way : Nat) : List Nat := (List.range x.length).map (fun k => x.getD (atF x.length s way k) 0)
theorem atF_lt {n s way : Nat} (hs : s < n) : ∀ k, atF n s way k < n
  | 0 => hs
  | k + 1 => by
    have := atF_lt (way := way) hs k
    show stp n way (atF n s way k) < n
    unfold stp
    split <;> split <;> omega
def eF : List (List Nat) → List Nat
  | [] => []
  | [x] => List.replicate (x.length - 1) 0 ++ [2]
  | x :: y :: X => (List.replicate (x.length - 1) 0 ++ [1]) ++ eF (y :: X)
def ends (V : List (List (List Nat))) : List Nat := (V.map eF).flatten
def uI (x : Int32) : Nat := x.toBitVec.toNat
theorem uI_nI {n : Nat} (h : n < 2 ^ 32) : uI (nI n) = n := by
  show (BitVec.ofNat 32 n).toNat = n
  rw [BitVec.toNat_ofNat, Nat.mod_eq_of_lt h]
theorem nI_uI (x : Int32) : nI (uI x) = x := by
  rw [← Int32.toBitVec_inj]
  show BitVec.ofNat 32 x.toBitVec.toNat = x.toBitVec
  simp
def wx (P : PosT) (w : Nat) : List Nat := (pW P).getD w []
def wV (P : PosT) (so : Nat → Int32) (way : Nat) (l : List Nat) : List (List Nat) := l.map (fun w => rotW (wx P w) (uI (so (way + w))) way)
def lsF (P : PosT) (wr : Nat → Int32) (way f : Nat) : List Nat := (List.range (fl P f)).map (fun k => uI (wr (way + lSt P.2 f + k)))
/-- a field as it is walked -/
def vF (P : PosT) (wr so tu : Nat → Int32) (f : Nat) : List (List Nat) := wV P so (uI (tu f)) (lsF P wr (uI (tu f)) f)
theorem rwOK.ls {P : PosT} {wr so : Nat → Int32} {f way : Nat} (h : rwOK P f way wr so) (hW : (pW P).length ≤ 31) : (lsF P wr way f).Perm (List.range' (lSt P.2 f) (fl P f)) ∧ rowL wr (way + lSt P.2 f) (lsF P wr way f) ∧ ∀ w ∈ lsF P wr way f, w < 31 ∧ ∃ x, (pW P)[w]? = some x ∧ uI (so (way + w)) < x.length ∧ so (way + w) = nI (uI (so (way + w))) := by
  obtain ⟨l, h1, h2, h3⟩ := h
  have hl : l.length = fl P f := by rw [h1.length_eq, List.length_range']
  have hlt : ∀ w ∈ l, w < 31 := fun w hw => by
    obtain ⟨s, x, k1, -⟩ := h3 w hw
    have := lt_some k1
    omega
  have e : lsF P wr way f = l := by
    unfold lsF
    refine List.ext_getElem? fun k => ?_
    rw [List.getElem?_map, ← hl]
    by_cases q : k < l.length
    · rw [List.getElem?_range q]
      have e1 : l[k]? = some l[k] := List.getElem?_eq_getElem q
      rw [e1]
      have := h2 k _ e1
      simp only [Option.map_some]
      rw [this, uI_nI (Nat.lt_trans (hlt _ (List.getElem_mem q)) (by decide))]
    · rw [List.getElem?_eq_none (by rw [List.length_range]; omega), List.getElem?_eq_none (by omega)]
      rfl
  rw [e]
  refine ⟨h1, h2, fun w hw => ?_⟩
  obtain ⟨s, x, k1, k2, k3⟩ := h3 w hw
  refine ⟨hlt w hw, x, k1, ?_, ?_⟩
  · rw [k3]
    show (BitVec.ofNat 32 s).toNat < x.length
    rw [BitVec.toNat_ofNat]
    exact Nat.lt_of_le_of_lt (Nat.mod_le _ _) k2
  · exact (nI_uI _).symm
section NM
variable {sc : ipSc} {d z b pt q le pc nr wc : Nat} {h : HP} {P : PosT} {sg fr wr so tu wk en : Nat → Int32} {tx : Nat → Int64} {hi lo : Int64}
set_option maxHeartbeats 1000000 in
theorem t_walkWall {A E : List Nat} (H : nmA h b pt sg fr wr tx so tu wk en nr A.length hi lo) (hA : rowL wk 0 A) (hE : rowL en 0 E) (hAE : A.length = E.length) (HQ : plIs h q le pc P) (hd : q + 5 ≤ b ∨ b + 9 ≤ q) {w way e s : Nat} {x : List Nat} (hw : (pW P)[w]? = some x) (hway : way = 0 ∨ way = 31) (hs : s < x.length) (hso : so (way + w) = nI s) (he : e < 4) (hcap : A.length + x.length ≤ 100) : ipC sc (d + 2) 25 [.ref b, .ref q, .int (nI w), .int (nI way), .int (nI e)] h z 0 0 (nmQ h b z (fun h2 => ∃ wk2 en2, nmA h2 b pt sg fr wr tx so tu wk2 en2 nr (A ++ rotW x s way).length hi lo ∧ rowL wk2 0 (A ++ rotW x s way) ∧ rowL en2 0 (E ++ (List.replicate (x.length - 1) 0 ++ [e])))) := by
  obtain ⟨-, sa, wf, ff, lf, hps, r1, r2, r3, r4, k1, k2, k3, k4⟩ := id HQ
  rw [bW_c] at k2 r3
  rw [bC_c] at k1 r2
  obtain ⟨p1, p2, p3, p4, p5⟩ := hps
  have hW : P.2.flatten = pW P := rfl
  have hC : P.2.flatten.flatten = pC P := rfl
  rw [hW] at k2 r3
  rw [hC] at k1 r2
  have hwl := lt_some hw
  have hxl : lSt (pW P) w + x.length ≤ (pC P).length := by
    have e1 := lSt_s hw
    have e2 := lSt_le (l := pW P) (f := w + 1)
    have e3 : (pW P).flatten.length = (pC P).length := rfl
    omega
  have hrl : (rotW x s way).length = x.length := by unfold rotW; rw [List.length_map, List.length_range]
  generalize hQ : nmQ h b z (fun h2 => ∃ wk2 en2, nmA h2 b pt sg fr wr tx so tu wk2 en2 nr (A ++ rotW x s way).length hi lo ∧ rowL wk2 0 (A ++ rotW x s way) ∧ rowL en2 0 (E ++ (List.replicate (x.length - 1) 0 ++ [e]))) = Q0
  refine ipC_mk [some (.ref b), some (.ref q), some (.int (nI w)), some (.int (nI way)), some (.int (nI e)), none, none, none, none] rfl (Nat.le_of_ble_eq_true rfl) ?_
  refine c25_0 p1 rfl p3 (by omega) (by decide) (r3 w (by omega)) (Nat.zero_le _) (Nat.zero_le _) (t_size HQ hw) (kI ?_)
  refine c25_13 H.1 rfl H.2.2.2.2.2.1 (by omega) (by decide) hso ?_
  have loop : ∀ (m k : Nat) (h3 : HP) (wk3 en3 : Nat → Int32) (A3 E3 : List Nat), k + m = x.length → frm b 9 h h3 → nmA h3 b pt sg fr wr tx so tu wk3 en3 nr A3.length hi lo → rowL wk3 0 A3 → rowL en3 0 E3 → A3.length = E3.length → A3.length = A.length + k → A3 ++ ((List.range' k m).map (fun k => x.getD (atF x.length s way k) 0)) = A ++ rotW x s way → E3 ++ ((List.range' k m).map (fun i => if i < x.length - 1 then 0 else e)) = E ++ (List.replicate (x.length - 1) 0 ++ [e]) → ∀ o2, ip sc (ipC sc (d + 1)) 25 0 0 Q0 28 [some (.ref b), some (.ref q), o2, some (.int (nI way)), some (.int (nI e)), some (.int (nI (lSt (pW P) w))), some (.int (nI x.length)), some (.int (nI (atF x.length s way k))), some (.int (nI k))] [] h3 z 0 0 := by
    intro m
    induction m with
    | zero =>
      intro k h3 wk3 en3 A3 E3 hk hf3 H3 hA3 hE3 hAE3 hl3 eA eE o2
      refine c25_28 (by omega) (by omega) (fun _ => c25_138 ?_) (fun r => absurd (by omega) r)
      rw [List.range'_zero, List.map_nil, List.append_nil] at eA eE
      rw [← hQ, ← eA, ← eE]
      exact ⟨rfl, rfl, hf3, wk3, en3, H3, hA3, hE3⟩
    | succ m ih =>
      intro k h3 wk3 en3 A3 E3 hk hf3 H3 hA3 hE3 hAE3 hl3 eA eE o2
      have hat := atF_lt (n := x.length) (s := s) (way := way) hs k
      have hxa : x[atF x.length s way k]? = some (x.getD (atF x.length s way k) 0) := gD hat
      have hco : (pC P)[lSt (pW P) w + atF x.length s way k]? = some (x.getD (atF x.length s way k) 0) := lSt_at hw hxa
      have q1 : h3 q = _ := (hf3 q (by omega)).trans p1
      have q2 : h3 (q + 1) = _ := (hf3 (q + 1) (by omega)).trans p2
      obtain ⟨g0, g1, g2, g3, g4, g5, g6, g7, g8⟩ := id H3
      rw [List.range'_succ, List.map_cons] at eA eE
      refine c25_28 (by omega) (by omega) (fun r => absurd r (by omega)) (fun _ => ?_)
      -- behind the ending
      have nxt : ∀ en0 wk4, en0 = (if k < x.length - 1 then 0 else e) → wk4 = upd wk3 A3.length (nI (x.getD (atF x.length s way k) 0)) → ip sc (ipC sc (d + 1)) 25 0 0 Q0 77 [some (.ref b), some (.ref q), o2, some (.int (nI way)), some (.int (nI e)), some (.int (nI (lSt (pW P) w))), some (.int (nI x.length)), some (.int (nI (atF x.length s way k))), some (.int (nI k))] [.int (nI en0), .int (nI A3.length), .ref (b + 8)] (hup h3 (b + 7) (.inl (0, 100, .inl wk4))) z 0 0 := fun en0 wk4 he0 hwk4 => by
        have hah : (A3 ++ [x.getD (atF x.length s way k) 0]).length = A3.length + 1 := by simp
        have key : ∀ (a2 : Nat), a2 = atF x.length s way (k + 1) → ip sc (ipC sc (d + 1)) 25 0 0 Q0 132 [some (.ref b), some (.ref q), o2, some (.int (nI way)), some (.int (nI e)), some (.int (nI (lSt (pW P) w))), some (.int (nI x.length)), some (.int (nI a2)), some (.int (nI k))] [] (hup (hup (hup h3 (b + 7) (.inl (0, 100, .inl wk4))) (b + 8) (.inl (0, 100, .inl (upd en3 A3.length (nI en0))))) b (.inr (3, (nFs b pt nr A3.length hi lo).set 10 (.int (nI (A3.length + 1)))))) z 0 0 := fun a2 ha2 => by
          rw [ha2]
          refine c25_132 (ih (k + 1) _ wk4 (upd en3 A3.length (nI en0)) (A3 ++ [x.getD (atF x.length s way k) 0]) (E3 ++ [en0]) (by omega) (((hf3.up (by omega)).up (by omega)).up (by omega)) ?_ ?_ ?_ (by simp; omega) (by simp; omega) ?_ ?_ o2)
          · rw [hah]
            exact ⟨hup_eq, hup_ne (by omega) (hup_ne (by omega) (hup_ne (by omega) g1)), hup_ne (by omega) (hup_ne (by omega) (hup_ne (by omega) g2)), hup_ne (by omega) (hup_ne (by omega) (hup_ne (by omega) g3)), hup_ne (by omega) (hup_ne (by omega) (hup_ne (by omega) g4)), hup_ne (by omega) (hup_ne (by omega) (hup_ne (by omega) g5)), hup_ne (by omega) (hup_ne (by omega) (hup_ne (by omega) g6)), hup_ne (by omega) (hup_ne (by omega) hup_eq), hup_ne (by omega) hup_eq⟩
          · rw [hwk4]
            exact rowL_app hA3 (by rw [Nat.zero_add])
          · exact rowL_app hE3 (by rw [Nat.zero_add]; exact hAE3)
          · rw [← eA, List.append_assoc]
            rfl
          · rw [← eE, List.append_assoc, he0]
            rfl
        refine c25_77 (v_fs8_10 := A3.length) (hup_ne (by omega) g8) (by omega) (by decide) rfl (hup_ne (by omega) g0) (by omega) rfl rfl (by omega) (fun r => ?_) (fun r => ?_)
        · refine c25_114 (by omega) (fun r2 => c25_126 (by omega) (c25_130 (key _ ?_))) (fun r2 => c25_119 (by omega) (c25_130 (key _ ?_)))
          · show _ = stp x.length way (atF x.length s way k)
            unfold stp
            rw [if_neg r, if_neg (by omega)]
          · show _ = stp x.length way (atF x.length s way k)
            unfold stp
            rw [if_neg r, if_pos (by omega)]
        · have r := Decidable.not_not.mp r
          refine c25_92 (by omega) (by omega) (fun r2 => c25_108 (c25_109 (key _ ?_))) (fun r2 => c25_101 (c25_109 (key _ ?_)))
          · show _ = stp x.length way (atF x.length s way k)
            unfold stp
            rw [if_pos r, if_neg (by omega)]
          · show _ = stp x.length way (atF x.length s way k)
            unfold stp
            rw [if_pos r, if_pos (by omega)]
      refine c25_35 (v_fs1_10 := A3.length) g0 rfl rfl q1 rfl q2 (by omega) (by decide) (rowL_at r2 hco) g7 (by omega) (by decide) rfl (by omega) rfl (by omega) (by omega) (by omega) (fun r => c25_75 (nxt e _ ?_ rfl)) (fun r => c25_71 (nxt 0 _ ?_ rfl))
      · rw [if_neg (by omega)]
      · rw [if_pos (by omega)]
  refine loop x.length 0 h wk en A E (by omega) frm.rf H hA hE hAE rfl ?_ ?_ _
  · unfold rotW
    rw [List.range_eq_range']
  · congr 1
    refine List.ext_getElem? fun i => ?_
    rw [List.getElem?_map]
    by_cases q : i < x.length
    · rw [← List.range_eq_range', List.getElem?_range q]
      simp only [Option.map_some]
      by_cases q2 : i < x.length - 1
      · rw [List.getElem?_append_left (by rw [List.length_replicate]; exact q2), List.getElem?_replicate, if_pos q2, if_pos q2]
      · rw [List.getElem?_append_right (by rw [List.length_replicate]; omega), List.length_replicate, if_neg q2, show i - (x.length - 1) = 0 by omega]
        rfl
    · rw [← List.range_eq_range', List.getElem?_eq_none (by rw [List.length_range]; omega), List.getElem?_eq_none (by simp; omega)]
      rfl
/-- all fields of the row, as they are walked -/
def vR (P : PosT) (wr so tu : Nat → Int32) (l : List Nat) : List (List (List Nat)) := l.map (vF P wr so tu)
set_option maxHeartbeats 1000000 in
theorem t_walk {l : List Nat} (H : nmA h b pt sg fr wr tx so tu wk en l.length wc hi lo) (hl : rowL fr 0 l) (hll : l.length ≤ 24) (hlm : ∀ f ∈ l, f < P.2.length ∧ trOK P f wr so tu) (HQ : plIs h q le pc P) (hd : q + 5 ≤ b ∨ b + 9 ≤ q) (hW : (pW P).length ≤ 31) (hF : P.2.length ≤ 24) (hne : ∀ X ∈ P.2, X ≠ []) (hcap : (vR P wr so tu l).flatten.flatten.length ≤ 100) : ipC sc (d + 3) 24 [.ref b, .ref q] h z 0 0 (nmQ h b z (fun h2 => ∃ wk2 en2, nmA h2 b pt sg fr wr tx so tu wk2 en2 l.length (vR P wr so tu l).flatten.flatten.length hi lo ∧ rowL wk2 0 (vR P wr so tu l).flatten.flatten ∧ rowL en2 0 (ends (vR P wr so tu l)))) := by
  obtain ⟨-, sa, wf, ff, lf, hps, r1, r2, r3, r4, k1, k2, k3, k4⟩ := id HQ
  simp only at k3 r4
  obtain ⟨p1, p2, p3, p4, p5⟩ := hps
  generalize hT : (vR P wr so tu l).flatten.flatten = T at hcap
  generalize hE0 : ends (vR P wr so tu l) = ET
  generalize hQ : nmQ h b z (fun h2 => ∃ wk2 en2, nmA h2 b pt sg fr wr tx so tu wk2 en2 l.length T.length hi lo ∧ rowL wk2 0 T ∧ rowL en2 0 ET) = Q0
  refine ipC_mk [some (.ref b), some (.ref q), none, none, none, none] rfl (Nat.le_of_ble_eq_true rfl) ?_
  -- the walls of a field
  have walls : ∀ (m j f way r : Nat) (h3 : HP) (wk3 en3 : Nat → Int32) (A E : List Nat), f < P.2.length → r < 24 → (way = 0 ∨ way = 31) → tu f = nI way → rwOK P f way wr so → j + m = fl P f → frm b 9 h h3 → nmA h3 b pt sg fr wr tx so tu wk3 en3 l.length A.length hi lo → rowL wk3 0 A → rowL en3 0 E → A.length = E.length → (A ++ (wV P so way ((lsF P wr way f).drop j)).flatten).length ≤ 100 → (∀ (h4 : HP) (wk4 en4 : Nat → Int32) (A4 E4 : List Nat), frm b 9 h h4 → nmA h4 b pt sg fr wr tx so tu wk4 en4 l.length A4.length hi lo → rowL wk4 0 A4 → rowL en4 0 E4 → A4.length = E4.length → A4 = A ++ (wV P so way ((lsF P wr way f).drop j)).flatten → E4 = E ++ eF (wV P so way ((lsF P wr way f).drop j)) → ∀ o3 o4 o5, ip sc (ipC sc (d + 2)) 24 0 0 Q0 92 [some (.ref b), some (.ref q), some (.int (nI r)), o3, o4, o5] [] h4 z 0 0) → ip sc (ipC sc (d + 2)) 24 0 0 Q0 42 [some (.ref b), some (.ref q), some (.int (nI r)), some (.int (nI f)), some (.int (nI (lSt P.2 f + fl P f - 1))), some (.int (nI (lSt P.2 f + j)))] [] h3 z 0 0 := by
    intro m
    induction m with
    | zero =>
      intro j f way r h3 wk3 en3 A E hf hr hway htu ok hj hf3 H3 hA hE hAE hc K
      have hls : lSt P.2 (f + 1) = lSt P.2 f + fl P f := lSt_s (gD (d := []) hf)
      have hle := lSt_le (l := P.2) (f := f + 1)
      have hW2 : P.2.flatten.length = (pW P).length := rfl
      obtain ⟨o1, o2, o3⟩ := ok.ls hW
      have hll2 : (lsF P wr way f).length = fl P f := by rw [o1.length_eq, List.length_range']
      have hpos : 0 < fl P f := List.length_pos_iff.mpr (hne _ (List.mem_of_getElem? (gD (d := []) hf)))
      refine c24_42 (by omega) (by omega) (fun _ => K h3 wk3 en3 A E hf3 H3 hA hE hAE ?_ ?_ _ _ _) (fun r => absurd (by omega) r)
      · rw [List.drop_eq_nil_of_le (by omega)]; simp [wV]
      · rw [List.drop_eq_nil_of_le (by omega)]; simp [wV, eF]
    | succ m ih =>
      intro j f way r h3 wk3 en3 A E hf hr hway htu ok hj hf3 H3 hA hE hAE hc K
      have hls : lSt P.2 (f + 1) = lSt P.2 f + fl P f := lSt_s (gD (d := []) hf)
      have hle := lSt_le (l := P.2) (f := f + 1)
      have hW2 : P.2.flatten.length = (pW P).length := rfl
      obtain ⟨o1, o2, o3⟩ := ok.ls hW
      have hll2 : (lsF P wr way f).length = fl P f := by rw [o1.length_eq, List.length_range']
      obtain ⟨w, hw⟩ := gt_some (l := lsF P wr way f) (i := j) (by omega)
      obtain ⟨w31, x, hx, hs, hso⟩ := o3 w (List.mem_of_getElem? hw)
      have hwx : wx P w = x := getD_of hx
      have hwr : wr (way + (lSt P.2 f + j)) = nI w := by rw [← Nat.add_assoc]; exact o2 j w hw
      have HQ3 : plIs h3 q le pc P := HQ.off fun y y1 y2 => hf3 y (by omega)
      have hrl : (rotW x (uI (so (way + w))) way).length = x.length := by unfold rotW; rw [List.length_map, List.length_range]
      have ev : wV P so way ((lsF P wr way f).drop j) = rotW x (uI (so (way + w))) way :: wV P so way ((lsF P wr way f).drop (j + 1)) := by
        rw [drop_cons hw]
        unfold wV
        rw [List.map_cons, hwx]
      rw [ev] at hc K
      rw [List.flatten_cons, List.length_append, List.length_append, hrl] at hc
      obtain ⟨g0, g1, g2, g3, g4, g5, g6, g7, g8⟩ := id H3
      refine c24_42 (by omega) (by omega) (fun r => absurd r (by omega)) (fun _ => ?_)
      -- the wall itself
      have key : ∀ e, e < 4 → (∀ X, wV P so way ((lsF P wr way f).drop (j + 1)) = X → List.replicate (x.length - 1) 0 ++ [e] ++ eF X = eF (rotW x (uI (so (way + w))) way :: X)) → ip sc (ipC sc (d + 2)) 24 0 0 Q0 83 [some (.ref b), some (.ref q), some (.int (nI r)), some (.int (nI f)), some (.int (nI (lSt P.2 f + fl P f - 1))), some (.int (nI (lSt P.2 f + j)))] [.int (nI e), .int (nI way), .int (nI w), .ref q, .ref b] h3 z 0 0 := fun e he hee => by
        refine c24_83 g0 (Nat.zero_le _) (Nat.zero_le _) (t_walkWall H3 hA hE hAE HQ3 hd hx hway hs hso he (by omega)) ?_
        rintro o h4 z4 ⟨rfl, rfl, hf4, wk4, en4, H4, hA4, hE4⟩
        refine c24_86 (ih (j + 1) f way r h4 wk4 en4 _ _ hf hr hway htu ok (by omega) (hf3.tr hf4) H4 hA4 hE4 ?_ ?_ (fun h5 wk5 en5 A5 E5 hf5 H5 hA5 hE5 hAE5 eA eE o3 o4 o5 => ?_))
        · simp only [List.length_append, hrl, List.length_replicate, List.length_cons, List.length_nil]; omega
        · rw [List.length_append, List.length_append, hrl]; omega
        · refine K h5 wk5 en5 A5 E5 hf5 H5 hA5 hE5 hAE5 ?_ ?_ o3 o4 o5
          · rw [eA, List.flatten_cons, List.append_assoc]
          · rw [eE, ← hee _ rfl]
            simp
      refine c24_49 g0 rfl rfl g6 (by omega) (by decide) htu g3 (by omega) (by decide) hwr (by omega) (by omega) (fun r2 => c24_82 (key 2 (by omega) fun X hX => ?_)) (fun r2 => c24_78 (key 1 (by omega) fun X hX => ?_))
      · have : X = [] := by
          rw [← hX, List.drop_eq_nil_of_le (by omega)]
          rfl
        subst this
        show List.replicate (x.length - 1) 0 ++ [2] ++ [] = List.replicate ((rotW x (uI (so (way + w))) way).length - 1) 0 ++ [2]
        rw [hrl, List.append_nil]
      · cases X with
        | nil =>
          have := congrArg List.length hX
          unfold wV at this
          rw [List.length_map, List.length_drop, hll2, List.length_nil] at this
          omega
        | cons y X =>
          show _ = (List.replicate ((rotW x (uI (so (way + w))) way).length - 1) 0 ++ [1]) ++ eF (y :: X)
          rw [hrl]
  -- the fields
  have loop : ∀ (m r : Nat) (h3 : HP) (wk3 en3 : Nat → Int32) (A E : List Nat), r + m = l.length → frm b 9 h h3 → nmA h3 b pt sg fr wr tx so tu wk3 en3 l.length A.length hi lo → rowL wk3 0 A → rowL en3 0 E → A.length = E.length → A ++ (vR P wr so tu (l.drop r)).flatten.flatten = T → E ++ ends (vR P wr so tu (l.drop r)) = ET → ∀ o3 o4 o5, ip sc (ipC sc (d + 2)) 24 0 0 Q0 7 [some (.ref b), some (.ref q), some (.int (nI r)), o3, o4, o5] [] h3 z 0 0 := by
    intro m
    induction m with
    | zero =>
      intro r h3 wk3 en3 A E hr hf3 H3 hA hE hAE eA eE o3 o4 o5
      refine c24_7 (v_fs1_9 := l.length) H3.1 rfl (by omega) (by omega) (fun _ => c24_98 ?_) (fun r => absurd (by omega) r)
      rw [List.drop_eq_nil_of_le (by omega)] at eA eE
      have eA : A = T := by simpa [vR] using eA
      have eE : E = ET := by simpa [vR, ends] using eE
      subst eA eE
      rw [← hQ]
      exact ⟨rfl, rfl, hf3, wk3, en3, H3, hA, hE⟩
    | succ m ih =>
      intro r h3 wk3 en3 A E hr hf3 H3 hA hE hAE eA eE o3 o4 o5
      obtain ⟨f, hf⟩ := gt_some (l := l) (i := r) (by omega)
      obtain ⟨hfl, ok0, ok1, way, hway, htu⟩ := hlm f (List.mem_of_getElem? hf)
      have ok : rwOK P f way wr so := by
        rcases hway with rfl | rfl
        · exact ok0
        · exact ok1
      have q1 : h3 q = _ := (hf3 q (by omega)).trans p1
      have q4 : h3 (q + 3) = _ := (hf3 (q + 3) (by omega)).trans p4
      have hls : lSt P.2 (f + 1) = lSt P.2 f + fl P f := lSt_s (gD (d := []) hfl)
      have hpos : 0 < fl P f := List.length_pos_iff.mpr (hne _ (List.mem_of_getElem? (gD (d := []) hfl)))
      have huw : uI (tu f) = way := by rw [htu, uI_nI (by omega)]
      have ev : vR P wr so tu (l.drop r) = wV P so way (lsF P wr way f) :: vR P wr so tu (l.drop (r + 1)) := by
        rw [drop_cons hf]
        unfold vR
        rw [List.map_cons]
        unfold vF
        rw [huw]
      rw [ev] at eA eE
      refine c24_7 (v_fs1_9 := l.length) H3.1 rfl (by omega) (by omega) (fun r => absurd r (by omega)) (fun _ => ?_)
      refine c24_15 H3.1 rfl H3.2.2.1 (by omega) (by decide) (rowL_at hl hf) q1 rfl q4 (by omega) (by decide) (r4 (f + 1) (by omega)) (by omega) (by omega) (r4 f (by omega)) ?_
      rw [hls]
      have hAl : (A ++ (wV P so way (lsF P wr way f)).flatten).length ≤ 100 := by
        have := congrArg List.length eA
        rw [List.flatten_cons, List.flatten_append, List.length_append, List.length_append] at this
        rw [List.length_append]
        omega
      have := walls (fl P f) 0 f way r h3 wk3 en3 A E hfl (by omega) hway htu ok (by omega) hf3 H3 hA hE hAE (by rw [List.drop_zero]; exact hAl) (fun h4 wk4 en4 A4 E4 hf4 H4 hA4 hE4 hAE4 e1 e2 o3 o4 o5 => c24_92 (ih (r + 1) h4 wk4 en4 A4 E4 (by omega) hf4 H4 hA4 hE4 hAE4 ?_ ?_ o3 o4 o5))
      · rw [Nat.add_zero] at this
        exact this
      · rw [e1, List.drop_zero, ← eA, List.flatten_cons, List.flatten_append, List.append_assoc]
      · rw [e2, List.drop_zero, ← eE]
        unfold ends
        rw [List.map_cons, List.flatten_cons, List.append_assoc]
  obtain ⟨g0, g1, g2, g3, g4, g5, g6, g7, g8⟩ := id H
  refine c24_0 g0 rfl (loop l.length 0 _ wk en [] [] (by omega) (frm.rf.up (by omega)) ⟨hup_eq, hup_ne (by omega) g1, hup_ne (by omega) g2, hup_ne (by omega) g3, hup_ne (by omega) g4, hup_ne (by omega) g5, hup_ne (by omega) g6, hup_ne (by omega) g7, hup_ne (by omega) g8⟩ rowL_nil rowL_nil rfl ?_ ?_ _ _ _)
  · rw [List.drop_zero]; exact hT
  · rw [List.drop_zero]; exact hE0
end NM

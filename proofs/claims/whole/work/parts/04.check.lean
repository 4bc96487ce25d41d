/-! every entry of the code's table decodes so, and its links are words of the tables -/
abbrev ipEnt : Type := Nat × Instr × Nat × Nat × Nat
def ipInfo (mid : Nat) : MethodName × ByteArray × Nat × Option FieldType × Nat := ipInfos.getD mid (yL_law, code, maxLocals, ret, 10)
def ipY (mid : Nat) : MethodName := (ipInfo mid).1
def ipB (mid : Nat) : ByteArray := (ipInfo mid).2.1
def ipM (mid : Nat) : Nat := (ipInfo mid).2.2.1
def ipR (mid : Nat) : Option FieldType := (ipInfo mid).2.2.2.1
def ipO (mid : Nat) : Nat := (ipInfo mid).2.2.2.2
def ipCode (mid : Nat) : List ipEnt := ipCodes.getD mid []
def ipFind : List ipEnt → Nat → Option (Instr × Nat × Nat × Nat)
  | [], _ => none
  | q :: l, pc => if q.1 = pc then some q.2 else ipFind l pc
def ipAt (mid pc : Nat) : Option (Instr × Nat × Nat × Nat) := ipFind (ipCode mid) pc
def ipCNs : List String := [RX0, RX1, RX2, RX3, RX4, RX5, RX6, RX7, RX8, RX9, RL, RJ6]
def ipCN (k : Nat) : String := ipCNs.getD k RL
def ipTs : List (u_T × (Nat → FieldType) × Nat) := [(TX0, tyX0, 2), (TX1, tyX1, 3), (TX2, tyX2, 6), (TX3, tyX3, 13), (TX4, tyX4, 3), (TX5, tyX5, 5), (TX6, tyX6, 11), (TX7, tyX7, 9), (TX8, tyX8, 4), (TX9, tyX9, 16)]
def ipT (ci k : Nat) : String × String × String × Bool := (ipTs.getD ci (TX0, tyX0, 2)).1 k
def ipTy (ci k : Nat) : FieldType := (ipTs.getD ci (TX0, tyX0, 2)).2.1 k
def ipN (ci : Nat) : Nat := (ipTs.getD ci (TX0, tyX0, 2)).2.2
def ipATy (t : Nat) : FieldType := match t with
  | 0 => .int
  | 1 => .long
  | 2 => .byte
  | 3 => .boolean
  | 4 => .object "SproutTable$Move"
  | 5 => .object "SproutTable$Position"
  | _ => .object "SproutTable$Notes"
def ipLk (mid pc : Nat) (i : Instr) (a b : Nat) : Bool := match i with
  | .getfield x => ipFL.contains (ipO mid, x, a, b)
  | .putfield x => ipFL.contains (ipO mid, x, a, b) && (!(ipT a b).2.2.2 || ((ipY mid).name == "<init>" && a == ipO mid))
  | .ldc x => ipKL.contains (ipO mid, x, a)
  | .ldc_w x => ipKL.contains (ipO mid, x, a)
  | .ldc2_w x => ipKLL.contains (ipO mid, x, a)
  | .if_icmp _ off => decide ((pc : Int) + off = (a : Int))
  | .ifCond _ off => decide ((pc : Int) + off = (a : Int))
  | .goto off => decide ((pc : Int) + off = (a : Int))
  | .ifnonnull off => decide ((pc : Int) + off = (a : Int))
  | .invokevirtual x => ipVL.contains (ipO mid, x, a, b)
  | .invokespecial x => if a = 999 then ipOL.contains (ipO mid, x) else ipIL.contains (ipO mid, x, a, b) || ipNL.contains (ipO mid, x, a, b)
  | .invokestatic x => if a = 998 then ipXL.contains (ipO mid, x) else ipSL.contains (ipO mid, x, a, b)
  | .new x => ipCL.contains (ipO mid, x, a)
  | .anewarray x => ipAL.contains (ipO mid, x, a)
  | .newarray t => decide (newarray.typeOf t = ipATy a) && decide (a < 4)
  | _ => true
def ipOKe (mid : Nat) (q : ipEnt) : Bool := decide (decode (ipB mid) q.1 = .ok (q.2.1, q.2.2.1)) && ipLk mid q.1 q.2.1 q.2.2.2.1 q.2.2.2.2
theorem ipAllC (w : Nat) (l : List ipEnt) (f : ipEnt → Bool) (n : Nat) (hn : l.length ≤ w * n) (h : ∀ j, j < n → ((l.drop (w * j)).take w).all f = true) : l.all f = true := by
  rw [List.all_eq_true]
  intro x hx
  obtain ⟨i, hi, rfl⟩ := List.getElem_of_mem hx
  have hw : 0 < w := by
    rcases Nat.eq_zero_or_pos w with rfl | q
    · omega
    · exact q
  have hj : i / w < n := by
    rw [Nat.div_lt_iff_lt_mul hw, Nat.mul_comm]
    omega
  have h1 := List.all_eq_true.mp (h (i / w) hj) l[i]
  apply h1
  rw [List.mem_iff_getElem?]
  refine ⟨i % w, ?_⟩
  have h2 : i % w < w := Nat.mod_lt _ hw
  rw [List.getElem?_take_of_lt h2, List.getElem?_drop, Nat.div_add_mod, List.getElem?_eq_getElem hi]
set_option maxRecDepth 100000 in
theorem ipk_0 : (ipCode 0).all (ipOKe 0) = true := by decide +kernel
set_option maxRecDepth 100000 in
theorem ipk_1 : (ipCode 1).all (ipOKe 1) = true := by decide +kernel
set_option maxRecDepth 100000 in
theorem ipk_2 : (ipCode 2).all (ipOKe 2) = true := by decide +kernel
set_option maxRecDepth 100000 in
theorem ipk_3 : (ipCode 3).all (ipOKe 3) = true := by decide +kernel
set_option maxRecDepth 100000 in
theorem ipk_4 : (ipCode 4).all (ipOKe 4) = true := by decide +kernel
set_option maxRecDepth 100000 in
theorem ipk_5 : (ipCode 5).all (ipOKe 5) = true := by decide +kernel
set_option maxRecDepth 100000 in
theorem ipk_6 : (ipCode 6).all (ipOKe 6) = true := by decide +kernel
set_option maxRecDepth 100000 in
theorem ipk_7 : (ipCode 7).all (ipOKe 7) = true := by decide +kernel
set_option maxRecDepth 100000 in
theorem ipk_8 : (ipCode 8).all (ipOKe 8) = true := by decide +kernel
set_option maxRecDepth 100000 in
theorem ipk_9 : (ipCode 9).all (ipOKe 9) = true := by decide +kernel
set_option maxRecDepth 100000 in
theorem ipk_10 : (ipCode 10).all (ipOKe 10) = true := by decide +kernel
set_option maxRecDepth 100000 in
theorem ipk_11 : (ipCode 11).all (ipOKe 11) = true := by decide +kernel
set_option maxRecDepth 100000 in
theorem ipk_12 : (ipCode 12).all (ipOKe 12) = true := by decide +kernel
set_option maxRecDepth 100000 in
theorem ipk_13 : (ipCode 13).all (ipOKe 13) = true := by decide +kernel
set_option maxRecDepth 100000 in
theorem ipk_14 : (ipCode 14).all (ipOKe 14) = true := by decide +kernel
set_option maxRecDepth 100000 in
theorem ipk_15 : (ipCode 15).all (ipOKe 15) = true := by decide +kernel
set_option maxRecDepth 100000 in
theorem ipk_16 : (ipCode 16).all (ipOKe 16) = true := by decide +kernel
set_option maxRecDepth 100000 in
theorem ipk_17 : (ipCode 17).all (ipOKe 17) = true := by decide +kernel
set_option maxRecDepth 100000 in
theorem ipk_18 : (ipCode 18).all (ipOKe 18) = true := by decide +kernel
set_option maxRecDepth 100000 in
theorem ipk_19 : (ipCode 19).all (ipOKe 19) = true := by decide +kernel
set_option maxRecDepth 100000 in
theorem ipk_20 : (ipCode 20).all (ipOKe 20) = true := by decide +kernel
set_option maxRecDepth 100000 in
theorem ipk_21_0 : (((ipCode 21).drop 0).take 50).all (ipOKe 21) = true := by decide +kernel
set_option maxRecDepth 100000 in
theorem ipk_21_1 : (((ipCode 21).drop 50).take 50).all (ipOKe 21) = true := by decide +kernel
theorem ipk_21 : (ipCode 21).all (ipOKe 21) = true := ipAllC 50 (ipCode 21) (ipOKe 21) 2 (by decide +kernel) (fun j hj => match j, hj with
  | 0, _ => ipk_21_0
  | 1, _ => ipk_21_1
  | n + 2, h => absurd h (by omega))
set_option maxRecDepth 100000 in
theorem ipk_22_0 : (((ipCode 22).drop 0).take 50).all (ipOKe 22) = true := by decide +kernel
set_option maxRecDepth 100000 in
theorem ipk_22_1 : (((ipCode 22).drop 50).take 50).all (ipOKe 22) = true := by decide +kernel
theorem ipk_22 : (ipCode 22).all (ipOKe 22) = true := ipAllC 50 (ipCode 22) (ipOKe 22) 2 (by decide +kernel) (fun j hj => match j, hj with
  | 0, _ => ipk_22_0
  | 1, _ => ipk_22_1
  | n + 2, h => absurd h (by omega))
set_option maxRecDepth 100000 in
theorem ipk_23_0 : (((ipCode 23).drop 0).take 50).all (ipOKe 23) = true := by decide +kernel
set_option maxRecDepth 100000 in
theorem ipk_23_1 : (((ipCode 23).drop 50).take 50).all (ipOKe 23) = true := by decide +kernel
set_option maxRecDepth 100000 in
theorem ipk_23_2 : (((ipCode 23).drop 100).take 50).all (ipOKe 23) = true := by decide +kernel
theorem ipk_23 : (ipCode 23).all (ipOKe 23) = true := ipAllC 50 (ipCode 23) (ipOKe 23) 3 (by decide +kernel) (fun j hj => match j, hj with
  | 0, _ => ipk_23_0
  | 1, _ => ipk_23_1
  | 2, _ => ipk_23_2
  | n + 3, h => absurd h (by omega))
set_option maxRecDepth 100000 in
theorem ipk_24 : (ipCode 24).all (ipOKe 24) = true := by decide +kernel
set_option maxRecDepth 100000 in
theorem ipk_25_0 : (((ipCode 25).drop 0).take 50).all (ipOKe 25) = true := by decide +kernel
set_option maxRecDepth 100000 in
theorem ipk_25_1 : (((ipCode 25).drop 50).take 50).all (ipOKe 25) = true := by decide +kernel
theorem ipk_25 : (ipCode 25).all (ipOKe 25) = true := ipAllC 50 (ipCode 25) (ipOKe 25) 2 (by decide +kernel) (fun j hj => match j, hj with
  | 0, _ => ipk_25_0
  | 1, _ => ipk_25_1
  | n + 2, h => absurd h (by omega))
set_option maxRecDepth 100000 in
theorem ipk_26 : (ipCode 26).all (ipOKe 26) = true := by decide +kernel
set_option maxRecDepth 100000 in
theorem ipk_27 : (ipCode 27).all (ipOKe 27) = true := by decide +kernel
set_option maxRecDepth 100000 in
theorem ipk_28 : (ipCode 28).all (ipOKe 28) = true := by decide +kernel
set_option maxRecDepth 100000 in
theorem ipk_29 : (ipCode 29).all (ipOKe 29) = true := by decide +kernel
set_option maxRecDepth 100000 in
theorem ipk_30_0 : (((ipCode 30).drop 0).take 50).all (ipOKe 30) = true := by decide +kernel
set_option maxRecDepth 100000 in
theorem ipk_30_1 : (((ipCode 30).drop 50).take 50).all (ipOKe 30) = true := by decide +kernel
theorem ipk_30 : (ipCode 30).all (ipOKe 30) = true := ipAllC 50 (ipCode 30) (ipOKe 30) 2 (by decide +kernel) (fun j hj => match j, hj with
  | 0, _ => ipk_30_0
  | 1, _ => ipk_30_1
  | n + 2, h => absurd h (by omega))
set_option maxRecDepth 100000 in
theorem ipk_31 : (ipCode 31).all (ipOKe 31) = true := by decide +kernel
set_option maxRecDepth 100000 in
theorem ipk_32 : (ipCode 32).all (ipOKe 32) = true := by decide +kernel
set_option maxRecDepth 100000 in
theorem ipk_33 : (ipCode 33).all (ipOKe 33) = true := by decide +kernel
set_option maxRecDepth 100000 in
theorem ipk_34 : (ipCode 34).all (ipOKe 34) = true := by decide +kernel
set_option maxRecDepth 100000 in
theorem ipk_35 : (ipCode 35).all (ipOKe 35) = true := by decide +kernel
set_option maxRecDepth 100000 in
theorem ipk_36 : (ipCode 36).all (ipOKe 36) = true := by decide +kernel
set_option maxRecDepth 100000 in
theorem ipk_37 : (ipCode 37).all (ipOKe 37) = true := by decide +kernel
set_option maxRecDepth 100000 in
theorem ipk_38 : (ipCode 38).all (ipOKe 38) = true := by decide +kernel
set_option maxRecDepth 100000 in
theorem ipk_39 : (ipCode 39).all (ipOKe 39) = true := by decide +kernel
set_option maxRecDepth 100000 in
theorem ipk_40 : (ipCode 40).all (ipOKe 40) = true := by decide +kernel
set_option maxRecDepth 100000 in
theorem ipk_41 : (ipCode 41).all (ipOKe 41) = true := by decide +kernel
set_option maxRecDepth 100000 in
theorem ipk_42 : (ipCode 42).all (ipOKe 42) = true := by decide +kernel
set_option maxRecDepth 100000 in
theorem ipk_43 : (ipCode 43).all (ipOKe 43) = true := by decide +kernel
set_option maxRecDepth 100000 in
theorem ipk_44 : (ipCode 44).all (ipOKe 44) = true := by decide +kernel
set_option maxRecDepth 100000 in
theorem ipk_45_0 : (((ipCode 45).drop 0).take 50).all (ipOKe 45) = true := by decide +kernel
set_option maxRecDepth 100000 in
theorem ipk_45_1 : (((ipCode 45).drop 50).take 50).all (ipOKe 45) = true := by decide +kernel
theorem ipk_45 : (ipCode 45).all (ipOKe 45) = true := ipAllC 50 (ipCode 45) (ipOKe 45) 2 (by decide +kernel) (fun j hj => match j, hj with
  | 0, _ => ipk_45_0
  | 1, _ => ipk_45_1
  | n + 2, h => absurd h (by omega))
set_option maxRecDepth 100000 in
theorem ipk_46_0 : (((ipCode 46).drop 0).take 50).all (ipOKe 46) = true := by decide +kernel
set_option maxRecDepth 100000 in
theorem ipk_46_1 : (((ipCode 46).drop 50).take 50).all (ipOKe 46) = true := by decide +kernel
theorem ipk_46 : (ipCode 46).all (ipOKe 46) = true := ipAllC 50 (ipCode 46) (ipOKe 46) 2 (by decide +kernel) (fun j hj => match j, hj with
  | 0, _ => ipk_46_0
  | 1, _ => ipk_46_1
  | n + 2, h => absurd h (by omega))
set_option maxRecDepth 100000 in
theorem ipk_47_0 : (((ipCode 47).drop 0).take 50).all (ipOKe 47) = true := by decide +kernel
set_option maxRecDepth 100000 in
theorem ipk_47_1 : (((ipCode 47).drop 50).take 50).all (ipOKe 47) = true := by decide +kernel
theorem ipk_47 : (ipCode 47).all (ipOKe 47) = true := ipAllC 50 (ipCode 47) (ipOKe 47) 2 (by decide +kernel) (fun j hj => match j, hj with
  | 0, _ => ipk_47_0
  | 1, _ => ipk_47_1
  | n + 2, h => absurd h (by omega))
set_option maxRecDepth 100000 in
theorem ipk_48 : (ipCode 48).all (ipOKe 48) = true := by decide +kernel
set_option maxRecDepth 100000 in
theorem ipk_49 : (ipCode 49).all (ipOKe 49) = true := by decide +kernel
set_option maxRecDepth 100000 in
theorem ipk_50 : (ipCode 50).all (ipOKe 50) = true := by decide +kernel
set_option maxRecDepth 100000 in
theorem ipk_51 : (ipCode 51).all (ipOKe 51) = true := by decide +kernel
set_option maxRecDepth 100000 in
theorem ipk_52 : (ipCode 52).all (ipOKe 52) = true := by decide +kernel
set_option maxRecDepth 100000 in
theorem ipk_53 : (ipCode 53).all (ipOKe 53) = true := by decide +kernel
set_option maxRecDepth 100000 in
theorem ipk_54_0 : (((ipCode 54).drop 0).take 50).all (ipOKe 54) = true := by decide +kernel
set_option maxRecDepth 100000 in
theorem ipk_54_1 : (((ipCode 54).drop 50).take 50).all (ipOKe 54) = true := by decide +kernel
theorem ipk_54 : (ipCode 54).all (ipOKe 54) = true := ipAllC 50 (ipCode 54) (ipOKe 54) 2 (by decide +kernel) (fun j hj => match j, hj with
  | 0, _ => ipk_54_0
  | 1, _ => ipk_54_1
  | n + 2, h => absurd h (by omega))
set_option maxRecDepth 100000 in
theorem ipk_55 : (ipCode 55).all (ipOKe 55) = true := by decide +kernel
set_option maxRecDepth 100000 in
theorem ipk_56 : (ipCode 56).all (ipOKe 56) = true := by decide +kernel
set_option maxRecDepth 100000 in
theorem ipk_57 : (ipCode 57).all (ipOKe 57) = true := by decide +kernel
set_option maxRecDepth 100000 in
theorem ipk_58 : (ipCode 58).all (ipOKe 58) = true := by decide +kernel
set_option maxRecDepth 100000 in
theorem ipk_59_0 : (((ipCode 59).drop 0).take 50).all (ipOKe 59) = true := by decide +kernel
set_option maxRecDepth 100000 in
theorem ipk_59_1 : (((ipCode 59).drop 50).take 50).all (ipOKe 59) = true := by decide +kernel
theorem ipk_59 : (ipCode 59).all (ipOKe 59) = true := ipAllC 50 (ipCode 59) (ipOKe 59) 2 (by decide +kernel) (fun j hj => match j, hj with
  | 0, _ => ipk_59_0
  | 1, _ => ipk_59_1
  | n + 2, h => absurd h (by omega))
set_option maxRecDepth 100000 in
theorem ipk_60_0 : (((ipCode 60).drop 0).take 50).all (ipOKe 60) = true := by decide +kernel
set_option maxRecDepth 100000 in
theorem ipk_60_1 : (((ipCode 60).drop 50).take 50).all (ipOKe 60) = true := by decide +kernel
theorem ipk_60 : (ipCode 60).all (ipOKe 60) = true := ipAllC 50 (ipCode 60) (ipOKe 60) 2 (by decide +kernel) (fun j hj => match j, hj with
  | 0, _ => ipk_60_0
  | 1, _ => ipk_60_1
  | n + 2, h => absurd h (by omega))
set_option maxRecDepth 100000 in
theorem ipk_61 : (ipCode 61).all (ipOKe 61) = true := by decide +kernel
set_option maxRecDepth 100000 in
theorem ipk_62 : (ipCode 62).all (ipOKe 62) = true := by decide +kernel
set_option maxRecDepth 100000 in
theorem ipk_63 : (ipCode 63).all (ipOKe 63) = true := by decide +kernel
set_option maxRecDepth 100000 in
theorem ipk_64 : (ipCode 64).all (ipOKe 64) = true := by decide +kernel
set_option maxRecDepth 100000 in
theorem ipk_65_0 : (((ipCode 65).drop 0).take 50).all (ipOKe 65) = true := by decide +kernel
set_option maxRecDepth 100000 in
theorem ipk_65_1 : (((ipCode 65).drop 50).take 50).all (ipOKe 65) = true := by decide +kernel
theorem ipk_65 : (ipCode 65).all (ipOKe 65) = true := ipAllC 50 (ipCode 65) (ipOKe 65) 2 (by decide +kernel) (fun j hj => match j, hj with
  | 0, _ => ipk_65_0
  | 1, _ => ipk_65_1
  | n + 2, h => absurd h (by omega))
set_option maxRecDepth 100000 in
theorem ipk_66 : (ipCode 66).all (ipOKe 66) = true := by decide +kernel
set_option maxRecDepth 100000 in
theorem ipk_67 : (ipCode 67).all (ipOKe 67) = true := by decide +kernel
set_option maxRecDepth 100000 in
theorem ipk_68_0 : (((ipCode 68).drop 0).take 50).all (ipOKe 68) = true := by decide +kernel
set_option maxRecDepth 100000 in
theorem ipk_68_1 : (((ipCode 68).drop 50).take 50).all (ipOKe 68) = true := by decide +kernel
theorem ipk_68 : (ipCode 68).all (ipOKe 68) = true := ipAllC 50 (ipCode 68) (ipOKe 68) 2 (by decide +kernel) (fun j hj => match j, hj with
  | 0, _ => ipk_68_0
  | 1, _ => ipk_68_1
  | n + 2, h => absurd h (by omega))
set_option maxRecDepth 100000 in
theorem ipk_69_0 : (((ipCode 69).drop 0).take 50).all (ipOKe 69) = true := by decide +kernel
set_option maxRecDepth 100000 in
theorem ipk_69_1 : (((ipCode 69).drop 50).take 50).all (ipOKe 69) = true := by decide +kernel
theorem ipk_69 : (ipCode 69).all (ipOKe 69) = true := ipAllC 50 (ipCode 69) (ipOKe 69) 2 (by decide +kernel) (fun j hj => match j, hj with
  | 0, _ => ipk_69_0
  | 1, _ => ipk_69_1
  | n + 2, h => absurd h (by omega))
set_option maxRecDepth 100000 in
theorem ipk_70 : (ipCode 70).all (ipOKe 70) = true := by decide +kernel
set_option maxRecDepth 100000 in
theorem ipk_71 : (ipCode 71).all (ipOKe 71) = true := by decide +kernel
set_option maxRecDepth 100000 in
theorem ipk_72 : (ipCode 72).all (ipOKe 72) = true := by decide +kernel
set_option maxRecDepth 100000 in
theorem ipk_73 : (ipCode 73).all (ipOKe 73) = true := by decide +kernel
set_option maxRecDepth 100000 in
theorem ipk_74 : (ipCode 74).all (ipOKe 74) = true := by decide +kernel
set_option maxRecDepth 100000 in
theorem ipk_75 : (ipCode 75).all (ipOKe 75) = true := by decide +kernel
set_option maxRecDepth 100000 in
theorem ipk_76 : (ipCode 76).all (ipOKe 76) = true := by decide +kernel
set_option maxRecDepth 100000 in
theorem ipk_77 : (ipCode 77).all (ipOKe 77) = true := by decide +kernel
set_option maxRecDepth 100000 in
theorem ipk_78 : (ipCode 78).all (ipOKe 78) = true := by decide +kernel
set_option maxRecDepth 100000 in
theorem ipk_79 : (ipCode 79).all (ipOKe 79) = true := by decide +kernel
set_option maxRecDepth 100000 in
theorem ipk_80 : (ipCode 80).all (ipOKe 80) = true := by decide +kernel
set_option maxRecDepth 100000 in
theorem ipk_81 : (ipCode 81).all (ipOKe 81) = true := by decide +kernel
set_option maxRecDepth 100000 in
theorem ipk_82 : (ipCode 82).all (ipOKe 82) = true := by decide +kernel
set_option maxRecDepth 100000 in
theorem ipk_83 : (ipCode 83).all (ipOKe 83) = true := by decide +kernel
set_option maxRecDepth 100000 in
theorem ipk_84 : (ipCode 84).all (ipOKe 84) = true := by decide +kernel
set_option maxRecDepth 100000 in
theorem ipk_85 : (ipCode 85).all (ipOKe 85) = true := by decide +kernel
set_option maxRecDepth 100000 in
theorem ipk_86 : (ipCode 86).all (ipOKe 86) = true := by decide +kernel
set_option maxRecDepth 100000 in
theorem ipk_87 : (ipCode 87).all (ipOKe 87) = true := by decide +kernel
set_option maxRecDepth 100000 in
theorem ipk_88 : (ipCode 88).all (ipOKe 88) = true := by decide +kernel
set_option maxRecDepth 100000 in
theorem ipk_89 : (ipCode 89).all (ipOKe 89) = true := by decide +kernel
set_option maxRecDepth 100000 in
theorem ipk_90 : (ipCode 90).all (ipOKe 90) = true := by decide +kernel
set_option maxRecDepth 100000 in
theorem ipk_91 : (ipCode 91).all (ipOKe 91) = true := by decide +kernel
set_option maxRecDepth 100000 in
theorem ipk_92_0 : (((ipCode 92).drop 0).take 50).all (ipOKe 92) = true := by decide +kernel
set_option maxRecDepth 100000 in
theorem ipk_92_1 : (((ipCode 92).drop 50).take 50).all (ipOKe 92) = true := by decide +kernel
theorem ipk_92 : (ipCode 92).all (ipOKe 92) = true := ipAllC 50 (ipCode 92) (ipOKe 92) 2 (by decide +kernel) (fun j hj => match j, hj with
  | 0, _ => ipk_92_0
  | 1, _ => ipk_92_1
  | n + 2, h => absurd h (by omega))
set_option maxRecDepth 100000 in
theorem ipk_93 : (ipCode 93).all (ipOKe 93) = true := by decide +kernel
set_option maxRecDepth 100000 in
theorem ipk_94 : (ipCode 94).all (ipOKe 94) = true := by decide +kernel
set_option maxRecDepth 100000 in
theorem ipk_95 : (ipCode 95).all (ipOKe 95) = true := by decide +kernel
set_option maxRecDepth 100000 in
theorem ipk_96 : (ipCode 96).all (ipOKe 96) = true := by decide +kernel
set_option maxRecDepth 100000 in
theorem ipk_97 : (ipCode 97).all (ipOKe 97) = true := by decide +kernel
set_option maxRecDepth 100000 in
theorem ipk_98 : (ipCode 98).all (ipOKe 98) = true := by decide +kernel
set_option maxRecDepth 100000 in
theorem ipk_99 : (ipCode 99).all (ipOKe 99) = true := by decide +kernel
set_option maxRecDepth 100000 in
theorem ipk_100 : (ipCode 100).all (ipOKe 100) = true := by decide +kernel
set_option maxRecDepth 100000 in
theorem ipk_101 : (ipCode 101).all (ipOKe 101) = true := by decide +kernel
set_option maxRecDepth 100000 in
theorem ipk_102 : (ipCode 102).all (ipOKe 102) = true := by decide +kernel
set_option maxRecDepth 100000 in
theorem ipk_103 : (ipCode 103).all (ipOKe 103) = true := by decide +kernel
set_option maxRecDepth 100000 in
theorem ipk_104 : (ipCode 104).all (ipOKe 104) = true := by decide +kernel
set_option maxRecDepth 100000 in
theorem ipk_105 : (ipCode 105).all (ipOKe 105) = true := by decide +kernel
set_option maxRecDepth 100000 in
theorem ipk_106 : (ipCode 106).all (ipOKe 106) = true := by decide +kernel
set_option maxRecDepth 100000 in
theorem ipk_107 : (ipCode 107).all (ipOKe 107) = true := by decide +kernel
set_option maxRecDepth 100000 in
theorem ipk_108_0 : (((ipCode 108).drop 0).take 50).all (ipOKe 108) = true := by decide +kernel
set_option maxRecDepth 100000 in
theorem ipk_108_1 : (((ipCode 108).drop 50).take 50).all (ipOKe 108) = true := by decide +kernel
set_option maxRecDepth 100000 in
theorem ipk_108_2 : (((ipCode 108).drop 100).take 50).all (ipOKe 108) = true := by decide +kernel
set_option maxRecDepth 100000 in
theorem ipk_108_3 : (((ipCode 108).drop 150).take 50).all (ipOKe 108) = true := by decide +kernel
set_option maxRecDepth 100000 in
theorem ipk_108_4 : (((ipCode 108).drop 200).take 50).all (ipOKe 108) = true := by decide +kernel
theorem ipk_108 : (ipCode 108).all (ipOKe 108) = true := ipAllC 50 (ipCode 108) (ipOKe 108) 5 (by decide +kernel) (fun j hj => match j, hj with
  | 0, _ => ipk_108_0
  | 1, _ => ipk_108_1
  | 2, _ => ipk_108_2
  | 3, _ => ipk_108_3
  | 4, _ => ipk_108_4
  | n + 5, h => absurd h (by omega))
set_option maxRecDepth 100000 in
theorem ipk_109 : (ipCode 109).all (ipOKe 109) = true := by decide +kernel
set_option maxRecDepth 100000 in
theorem ipk_110 : (ipCode 110).all (ipOKe 110) = true := by decide +kernel
set_option maxRecDepth 100000 in
theorem ipk_111 : (ipCode 111).all (ipOKe 111) = true := by decide +kernel
set_option maxRecDepth 100000 in
theorem ipk_112 : (ipCode 112).all (ipOKe 112) = true := by decide +kernel
set_option maxRecDepth 100000 in
theorem ipk_113 : (ipCode 113).all (ipOKe 113) = true := by decide +kernel
set_option maxRecDepth 100000 in
theorem ipk_114 : (ipCode 114).all (ipOKe 114) = true := by decide +kernel
set_option maxRecDepth 100000 in
theorem ipk_115 : (ipCode 115).all (ipOKe 115) = true := by decide +kernel
set_option maxRecDepth 100000 in
theorem ipk_116_0 : (((ipCode 116).drop 0).take 50).all (ipOKe 116) = true := by decide +kernel
set_option maxRecDepth 100000 in
theorem ipk_116_1 : (((ipCode 116).drop 50).take 50).all (ipOKe 116) = true := by decide +kernel
set_option maxRecDepth 100000 in
theorem ipk_116_2 : (((ipCode 116).drop 100).take 50).all (ipOKe 116) = true := by decide +kernel
set_option maxRecDepth 100000 in
theorem ipk_116_3 : (((ipCode 116).drop 150).take 50).all (ipOKe 116) = true := by decide +kernel
set_option maxRecDepth 100000 in
theorem ipk_116_4 : (((ipCode 116).drop 200).take 50).all (ipOKe 116) = true := by decide +kernel
theorem ipk_116 : (ipCode 116).all (ipOKe 116) = true := ipAllC 50 (ipCode 116) (ipOKe 116) 5 (by decide +kernel) (fun j hj => match j, hj with
  | 0, _ => ipk_116_0
  | 1, _ => ipk_116_1
  | 2, _ => ipk_116_2
  | 3, _ => ipk_116_3
  | 4, _ => ipk_116_4
  | n + 5, h => absurd h (by omega))
set_option maxRecDepth 100000 in
theorem ipk_117 : (ipCode 117).all (ipOKe 117) = true := by decide +kernel
set_option maxRecDepth 100000 in
theorem ipk_118 : (ipCode 118).all (ipOKe 118) = true := by decide +kernel
set_option maxRecDepth 100000 in
theorem ipk_119_0 : (((ipCode 119).drop 0).take 50).all (ipOKe 119) = true := by decide +kernel
set_option maxRecDepth 100000 in
theorem ipk_119_1 : (((ipCode 119).drop 50).take 50).all (ipOKe 119) = true := by decide +kernel
theorem ipk_119 : (ipCode 119).all (ipOKe 119) = true := ipAllC 50 (ipCode 119) (ipOKe 119) 2 (by decide +kernel) (fun j hj => match j, hj with
  | 0, _ => ipk_119_0
  | 1, _ => ipk_119_1
  | n + 2, h => absurd h (by omega))
set_option maxRecDepth 100000 in
theorem ipk_120_0 : (((ipCode 120).drop 0).take 50).all (ipOKe 120) = true := by decide +kernel
set_option maxRecDepth 100000 in
theorem ipk_120_1 : (((ipCode 120).drop 50).take 50).all (ipOKe 120) = true := by decide +kernel
theorem ipk_120 : (ipCode 120).all (ipOKe 120) = true := ipAllC 50 (ipCode 120) (ipOKe 120) 2 (by decide +kernel) (fun j hj => match j, hj with
  | 0, _ => ipk_120_0
  | 1, _ => ipk_120_1
  | n + 2, h => absurd h (by omega))
set_option maxRecDepth 100000 in
theorem ipk_121 : (ipCode 121).all (ipOKe 121) = true := by decide +kernel
set_option maxRecDepth 100000 in
theorem ipk_122 : (ipCode 122).all (ipOKe 122) = true := by decide +kernel
set_option maxRecDepth 100000 in
theorem ipk_123 : (ipCode 123).all (ipOKe 123) = true := by decide +kernel
set_option maxRecDepth 100000 in
theorem ipk_124 : (ipCode 124).all (ipOKe 124) = true := by decide +kernel
set_option maxRecDepth 100000 in
theorem ipk_125 : (ipCode 125).all (ipOKe 125) = true := by decide +kernel
set_option maxRecDepth 100000 in
theorem ipk_126 : (ipCode 126).all (ipOKe 126) = true := by decide +kernel
set_option maxRecDepth 100000 in
theorem ipk_127 : (ipCode 127).all (ipOKe 127) = true := by decide +kernel
set_option maxRecDepth 100000 in
theorem ipk_128_0 : (((ipCode 128).drop 0).take 50).all (ipOKe 128) = true := by decide +kernel
set_option maxRecDepth 100000 in
theorem ipk_128_1 : (((ipCode 128).drop 50).take 50).all (ipOKe 128) = true := by decide +kernel
theorem ipk_128 : (ipCode 128).all (ipOKe 128) = true := ipAllC 50 (ipCode 128) (ipOKe 128) 2 (by decide +kernel) (fun j hj => match j, hj with
  | 0, _ => ipk_128_0
  | 1, _ => ipk_128_1
  | n + 2, h => absurd h (by omega))
set_option maxRecDepth 100000 in
theorem ipk_129_0 : (((ipCode 129).drop 0).take 50).all (ipOKe 129) = true := by decide +kernel
set_option maxRecDepth 100000 in
theorem ipk_129_1 : (((ipCode 129).drop 50).take 50).all (ipOKe 129) = true := by decide +kernel
theorem ipk_129 : (ipCode 129).all (ipOKe 129) = true := ipAllC 50 (ipCode 129) (ipOKe 129) 2 (by decide +kernel) (fun j hj => match j, hj with
  | 0, _ => ipk_129_0
  | 1, _ => ipk_129_1
  | n + 2, h => absurd h (by omega))
set_option maxRecDepth 100000 in
theorem ipk_130 : (ipCode 130).all (ipOKe 130) = true := by decide +kernel
set_option maxRecDepth 100000 in
theorem ipk_131 : (ipCode 131).all (ipOKe 131) = true := by decide +kernel
set_option maxRecDepth 100000 in
theorem ipk_132 : (ipCode 132).all (ipOKe 132) = true := by decide +kernel
set_option maxRecDepth 100000 in
theorem ipk_133 : (ipCode 133).all (ipOKe 133) = true := by decide +kernel
set_option maxRecDepth 100000 in
theorem ipk_134 : (ipCode 134).all (ipOKe 134) = true := by decide +kernel
set_option maxRecDepth 100000 in
theorem ipk_135 : (ipCode 135).all (ipOKe 135) = true := by decide +kernel
set_option maxRecDepth 100000 in
theorem ipk_136_0 : (((ipCode 136).drop 0).take 50).all (ipOKe 136) = true := by decide +kernel
set_option maxRecDepth 100000 in
theorem ipk_136_1 : (((ipCode 136).drop 50).take 50).all (ipOKe 136) = true := by decide +kernel
set_option maxRecDepth 100000 in
theorem ipk_136_2 : (((ipCode 136).drop 100).take 50).all (ipOKe 136) = true := by decide +kernel
set_option maxRecDepth 100000 in
theorem ipk_136_3 : (((ipCode 136).drop 150).take 50).all (ipOKe 136) = true := by decide +kernel
theorem ipk_136 : (ipCode 136).all (ipOKe 136) = true := ipAllC 50 (ipCode 136) (ipOKe 136) 4 (by decide +kernel) (fun j hj => match j, hj with
  | 0, _ => ipk_136_0
  | 1, _ => ipk_136_1
  | 2, _ => ipk_136_2
  | 3, _ => ipk_136_3
  | n + 4, h => absurd h (by omega))
set_option maxRecDepth 100000 in
theorem ipk_137_0 : (((ipCode 137).drop 0).take 50).all (ipOKe 137) = true := by decide +kernel
set_option maxRecDepth 100000 in
theorem ipk_137_1 : (((ipCode 137).drop 50).take 50).all (ipOKe 137) = true := by decide +kernel
set_option maxRecDepth 100000 in
theorem ipk_137_2 : (((ipCode 137).drop 100).take 50).all (ipOKe 137) = true := by decide +kernel
theorem ipk_137 : (ipCode 137).all (ipOKe 137) = true := ipAllC 50 (ipCode 137) (ipOKe 137) 3 (by decide +kernel) (fun j hj => match j, hj with
  | 0, _ => ipk_137_0
  | 1, _ => ipk_137_1
  | 2, _ => ipk_137_2
  | n + 3, h => absurd h (by omega))
set_option maxRecDepth 100000 in
theorem ipk_138_0 : (((ipCode 138).drop 0).take 50).all (ipOKe 138) = true := by decide +kernel
set_option maxRecDepth 100000 in
theorem ipk_138_1 : (((ipCode 138).drop 50).take 50).all (ipOKe 138) = true := by decide +kernel
theorem ipk_138 : (ipCode 138).all (ipOKe 138) = true := ipAllC 50 (ipCode 138) (ipOKe 138) 2 (by decide +kernel) (fun j hj => match j, hj with
  | 0, _ => ipk_138_0
  | 1, _ => ipk_138_1
  | n + 2, h => absurd h (by omega))
set_option maxRecDepth 100000 in
theorem ipk_139_0 : (((ipCode 139).drop 0).take 50).all (ipOKe 139) = true := by decide +kernel
set_option maxRecDepth 100000 in
theorem ipk_139_1 : (((ipCode 139).drop 50).take 50).all (ipOKe 139) = true := by decide +kernel
set_option maxRecDepth 100000 in
theorem ipk_139_2 : (((ipCode 139).drop 100).take 50).all (ipOKe 139) = true := by decide +kernel
set_option maxRecDepth 100000 in
theorem ipk_139_3 : (((ipCode 139).drop 150).take 50).all (ipOKe 139) = true := by decide +kernel
theorem ipk_139 : (ipCode 139).all (ipOKe 139) = true := ipAllC 50 (ipCode 139) (ipOKe 139) 4 (by decide +kernel) (fun j hj => match j, hj with
  | 0, _ => ipk_139_0
  | 1, _ => ipk_139_1
  | 2, _ => ipk_139_2
  | 3, _ => ipk_139_3
  | n + 4, h => absurd h (by omega))
set_option maxRecDepth 100000 in
theorem ipk_140_0 : (((ipCode 140).drop 0).take 50).all (ipOKe 140) = true := by decide +kernel
set_option maxRecDepth 100000 in
theorem ipk_140_1 : (((ipCode 140).drop 50).take 50).all (ipOKe 140) = true := by decide +kernel
theorem ipk_140 : (ipCode 140).all (ipOKe 140) = true := ipAllC 50 (ipCode 140) (ipOKe 140) 2 (by decide +kernel) (fun j hj => match j, hj with
  | 0, _ => ipk_140_0
  | 1, _ => ipk_140_1
  | n + 2, h => absurd h (by omega))
set_option maxRecDepth 100000 in
theorem ipk_141 : (ipCode 141).all (ipOKe 141) = true := by decide +kernel
set_option maxRecDepth 100000 in
theorem ipk_142_0 : (((ipCode 142).drop 0).take 50).all (ipOKe 142) = true := by decide +kernel
set_option maxRecDepth 100000 in
theorem ipk_142_1 : (((ipCode 142).drop 50).take 50).all (ipOKe 142) = true := by decide +kernel
theorem ipk_142 : (ipCode 142).all (ipOKe 142) = true := ipAllC 50 (ipCode 142) (ipOKe 142) 2 (by decide +kernel) (fun j hj => match j, hj with
  | 0, _ => ipk_142_0
  | 1, _ => ipk_142_1
  | n + 2, h => absurd h (by omega))
set_option maxRecDepth 100000 in
theorem ipk_143 : (ipCode 143).all (ipOKe 143) = true := by decide +kernel
set_option maxRecDepth 100000 in
theorem ipk_144 : (ipCode 144).all (ipOKe 144) = true := by decide +kernel
set_option maxRecDepth 100000 in
theorem ipk_145_0 : (((ipCode 145).drop 0).take 50).all (ipOKe 145) = true := by decide +kernel
set_option maxRecDepth 100000 in
theorem ipk_145_1 : (((ipCode 145).drop 50).take 50).all (ipOKe 145) = true := by decide +kernel
set_option maxRecDepth 100000 in
theorem ipk_145_2 : (((ipCode 145).drop 100).take 50).all (ipOKe 145) = true := by decide +kernel
theorem ipk_145 : (ipCode 145).all (ipOKe 145) = true := ipAllC 50 (ipCode 145) (ipOKe 145) 3 (by decide +kernel) (fun j hj => match j, hj with
  | 0, _ => ipk_145_0
  | 1, _ => ipk_145_1
  | 2, _ => ipk_145_2
  | n + 3, h => absurd h (by omega))
set_option maxRecDepth 100000 in
theorem ipk_146 : (ipCode 146).all (ipOKe 146) = true := by decide +kernel
set_option maxRecDepth 100000 in
theorem ipk_147 : (ipCode 147).all (ipOKe 147) = true := by decide +kernel
set_option maxRecDepth 100000 in
theorem ipk_148_0 : (((ipCode 148).drop 0).take 50).all (ipOKe 148) = true := by decide +kernel
set_option maxRecDepth 100000 in
theorem ipk_148_1 : (((ipCode 148).drop 50).take 50).all (ipOKe 148) = true := by decide +kernel
theorem ipk_148 : (ipCode 148).all (ipOKe 148) = true := ipAllC 50 (ipCode 148) (ipOKe 148) 2 (by decide +kernel) (fun j hj => match j, hj with
  | 0, _ => ipk_148_0
  | 1, _ => ipk_148_1
  | n + 2, h => absurd h (by omega))
set_option maxRecDepth 100000 in
theorem ipk_149 : (ipCode 149).all (ipOKe 149) = true := by decide +kernel
set_option maxRecDepth 100000 in
theorem ipk_150 : (ipCode 150).all (ipOKe 150) = true := by decide +kernel
set_option maxRecDepth 100000 in
theorem ipk_151 : (ipCode 151).all (ipOKe 151) = true := by decide +kernel
set_option maxRecDepth 100000 in
theorem ipk_152_0 : (((ipCode 152).drop 0).take 50).all (ipOKe 152) = true := by decide +kernel
set_option maxRecDepth 100000 in
theorem ipk_152_1 : (((ipCode 152).drop 50).take 50).all (ipOKe 152) = true := by decide +kernel
set_option maxRecDepth 100000 in
theorem ipk_152_2 : (((ipCode 152).drop 100).take 50).all (ipOKe 152) = true := by decide +kernel
set_option maxRecDepth 100000 in
theorem ipk_152_3 : (((ipCode 152).drop 150).take 50).all (ipOKe 152) = true := by decide +kernel
set_option maxRecDepth 100000 in
theorem ipk_152_4 : (((ipCode 152).drop 200).take 50).all (ipOKe 152) = true := by decide +kernel
set_option maxRecDepth 100000 in
theorem ipk_152_5 : (((ipCode 152).drop 250).take 50).all (ipOKe 152) = true := by decide +kernel
set_option maxRecDepth 100000 in
theorem ipk_152_6 : (((ipCode 152).drop 300).take 50).all (ipOKe 152) = true := by decide +kernel
set_option maxRecDepth 100000 in
theorem ipk_152_7 : (((ipCode 152).drop 350).take 50).all (ipOKe 152) = true := by decide +kernel
theorem ipk_152 : (ipCode 152).all (ipOKe 152) = true := ipAllC 50 (ipCode 152) (ipOKe 152) 8 (by decide +kernel) (fun j hj => match j, hj with
  | 0, _ => ipk_152_0
  | 1, _ => ipk_152_1
  | 2, _ => ipk_152_2
  | 3, _ => ipk_152_3
  | 4, _ => ipk_152_4
  | 5, _ => ipk_152_5
  | 6, _ => ipk_152_6
  | 7, _ => ipk_152_7
  | n + 8, h => absurd h (by omega))
theorem ipk_in : ∀ mid, mid < 153 → (ipCode mid).all (ipOKe mid) = true := by
  intro mid h
  match mid, h with
  | 0, _ => exact ipk_0
  | 1, _ => exact ipk_1
  | 2, _ => exact ipk_2
  | 3, _ => exact ipk_3
  | 4, _ => exact ipk_4
  | 5, _ => exact ipk_5
  | 6, _ => exact ipk_6
  | 7, _ => exact ipk_7
  | 8, _ => exact ipk_8
  | 9, _ => exact ipk_9
  | 10, _ => exact ipk_10
  | 11, _ => exact ipk_11
  | 12, _ => exact ipk_12
  | 13, _ => exact ipk_13
  | 14, _ => exact ipk_14
  | 15, _ => exact ipk_15
  | 16, _ => exact ipk_16
  | 17, _ => exact ipk_17
  | 18, _ => exact ipk_18
  | 19, _ => exact ipk_19
  | 20, _ => exact ipk_20
  | 21, _ => exact ipk_21
  | 22, _ => exact ipk_22
  | 23, _ => exact ipk_23
  | 24, _ => exact ipk_24
  | 25, _ => exact ipk_25
  | 26, _ => exact ipk_26
  | 27, _ => exact ipk_27
  | 28, _ => exact ipk_28
  | 29, _ => exact ipk_29
  | 30, _ => exact ipk_30
  | 31, _ => exact ipk_31
  | 32, _ => exact ipk_32
  | 33, _ => exact ipk_33
  | 34, _ => exact ipk_34
  | 35, _ => exact ipk_35
  | 36, _ => exact ipk_36
  | 37, _ => exact ipk_37
  | 38, _ => exact ipk_38
  | 39, _ => exact ipk_39
  | 40, _ => exact ipk_40
  | 41, _ => exact ipk_41
  | 42, _ => exact ipk_42
  | 43, _ => exact ipk_43
  | 44, _ => exact ipk_44
  | 45, _ => exact ipk_45
  | 46, _ => exact ipk_46
  | 47, _ => exact ipk_47
  | 48, _ => exact ipk_48
  | 49, _ => exact ipk_49
  | 50, _ => exact ipk_50
  | 51, _ => exact ipk_51
  | 52, _ => exact ipk_52
  | 53, _ => exact ipk_53
  | 54, _ => exact ipk_54
  | 55, _ => exact ipk_55
  | 56, _ => exact ipk_56
  | 57, _ => exact ipk_57
  | 58, _ => exact ipk_58
  | 59, _ => exact ipk_59
  | 60, _ => exact ipk_60
  | 61, _ => exact ipk_61
  | 62, _ => exact ipk_62
  | 63, _ => exact ipk_63
  | 64, _ => exact ipk_64
  | 65, _ => exact ipk_65
  | 66, _ => exact ipk_66
  | 67, _ => exact ipk_67
  | 68, _ => exact ipk_68
  | 69, _ => exact ipk_69
  | 70, _ => exact ipk_70
  | 71, _ => exact ipk_71
  | 72, _ => exact ipk_72
  | 73, _ => exact ipk_73
  | 74, _ => exact ipk_74
  | 75, _ => exact ipk_75
  | 76, _ => exact ipk_76
  | 77, _ => exact ipk_77
  | 78, _ => exact ipk_78
  | 79, _ => exact ipk_79
  | 80, _ => exact ipk_80
  | 81, _ => exact ipk_81
  | 82, _ => exact ipk_82
  | 83, _ => exact ipk_83
  | 84, _ => exact ipk_84
  | 85, _ => exact ipk_85
  | 86, _ => exact ipk_86
  | 87, _ => exact ipk_87
  | 88, _ => exact ipk_88
  | 89, _ => exact ipk_89
  | 90, _ => exact ipk_90
  | 91, _ => exact ipk_91
  | 92, _ => exact ipk_92
  | 93, _ => exact ipk_93
  | 94, _ => exact ipk_94
  | 95, _ => exact ipk_95
  | 96, _ => exact ipk_96
  | 97, _ => exact ipk_97
  | 98, _ => exact ipk_98
  | 99, _ => exact ipk_99
  | 100, _ => exact ipk_100
  | 101, _ => exact ipk_101
  | 102, _ => exact ipk_102
  | 103, _ => exact ipk_103
  | 104, _ => exact ipk_104
  | 105, _ => exact ipk_105
  | 106, _ => exact ipk_106
  | 107, _ => exact ipk_107
  | 108, _ => exact ipk_108
  | 109, _ => exact ipk_109
  | 110, _ => exact ipk_110
  | 111, _ => exact ipk_111
  | 112, _ => exact ipk_112
  | 113, _ => exact ipk_113
  | 114, _ => exact ipk_114
  | 115, _ => exact ipk_115
  | 116, _ => exact ipk_116
  | 117, _ => exact ipk_117
  | 118, _ => exact ipk_118
  | 119, _ => exact ipk_119
  | 120, _ => exact ipk_120
  | 121, _ => exact ipk_121
  | 122, _ => exact ipk_122
  | 123, _ => exact ipk_123
  | 124, _ => exact ipk_124
  | 125, _ => exact ipk_125
  | 126, _ => exact ipk_126
  | 127, _ => exact ipk_127
  | 128, _ => exact ipk_128
  | 129, _ => exact ipk_129
  | 130, _ => exact ipk_130
  | 131, _ => exact ipk_131
  | 132, _ => exact ipk_132
  | 133, _ => exact ipk_133
  | 134, _ => exact ipk_134
  | 135, _ => exact ipk_135
  | 136, _ => exact ipk_136
  | 137, _ => exact ipk_137
  | 138, _ => exact ipk_138
  | 139, _ => exact ipk_139
  | 140, _ => exact ipk_140
  | 141, _ => exact ipk_141
  | 142, _ => exact ipk_142
  | 143, _ => exact ipk_143
  | 144, _ => exact ipk_144
  | 145, _ => exact ipk_145
  | 146, _ => exact ipk_146
  | 147, _ => exact ipk_147
  | 148, _ => exact ipk_148
  | 149, _ => exact ipk_149
  | 150, _ => exact ipk_150
  | 151, _ => exact ipk_151
  | 152, _ => exact ipk_152
  | n + 153, h => exact absurd h (by omega)
theorem ipk_all (mid : Nat) : (ipCode mid).all (ipOKe mid) = true := by
  by_cases h : mid < 153
  · exact ipk_in mid h
  · have h0 : ipCodes.length = 153 := rfl
    have h1 : ipCodes[mid]? = none := by rw [List.getElem?_eq_none_iff]; omega
    have : ipCode mid = [] := by unfold ipCode; rw [List.getD_eq_getElem?_getD, h1]; rfl
    rw [this]; rfl
theorem ipFind_mem : ∀ (l : List ipEnt) (pc : Nat) (q : Instr × Nat × Nat × Nat), ipFind l pc = some q → (pc, q) ∈ l
  | [], _, _, h => by cases h
  | r :: l, pc, q, h => by
    unfold ipFind at h
    by_cases e : r.1 = pc
    · rw [if_pos e] at h
      cases h
      rw [← e]
      exact List.mem_cons_self
    · rw [if_neg e] at h
      exact List.mem_cons_of_mem _ (ipFind_mem l pc q h)
theorem ipAt_ok {mid pc : Nat} {i : Instr} {len a b : Nat} (h : ipAt mid pc = some (i, len, a, b)) : decode (ipB mid) pc = .ok (i, len) ∧ ipLk mid pc i a b = true := by
  have h1 := List.all_eq_true.mp (ipk_all mid) _ (ipFind_mem _ _ _ h)
  simp only [ipOKe, Bool.and_eq_true, decide_eq_true_eq] at h1
  exact h1

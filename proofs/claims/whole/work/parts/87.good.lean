/-! labels of the pieces are one -/
theorem good_le {P : PosT} {g k : Nat → Nat} (hg : good P g) (hk : good P k) {s : Nat} (hs : s < P.1.length) : k (g s) = k s := by
  have h := hg.2.2 (fun x => decide (k x = k s)) (fun x hx a ha b hb => by rw [hk.2.1 x hx a ha b hb]) s hs
  have h1 : decide (k s = k s) = true := decide_eq_true rfl
  have h2 : decide (k (g s) = k s) = true := h ▸ h1
  exact of_decide_eq_true h2
theorem good_one {P : PosT} {g k : Nat → Nat} (hg : good P g) (hk : good P k) {s : Nat} (hs : s < P.1.length) : g s = k s := by
  have h1 := good_le hg hk hs
  have h2 := good_le hk hg hs
  have h3 := (hk.1 (g s) (hg.1.lt hs)).1
  have h4 := (hg.1 (k s) (hk.1.lt hs)).1
  omega
theorem cntF_congr {g k : Nat → Nat} : ∀ {n}, (∀ s, s < n → g s = k s) → cntF g n = cntF k n
  | 0, _ => rfl
  | n + 1, h => by
    unfold cntF
    rw [cntF_congr fun s hs => h s (by omega), h n (by omega)]
theorem good_cnt {P : PosT} {g k : Nat → Nat} (hg : good P g) (hk : good P k) : cntF g P.1.length = cntF k P.1.length := cntF_congr fun _ hs => good_one hg hk hs

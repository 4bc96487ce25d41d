/-! labels: the reference's hangs and together -/
def tog (g : Nat → Nat) (a b : Nat) : Nat → Nat := fun s => if g s = max (g a) (g b) then min (g a) (g b) else g s
/-- every label is its own label -/
def fix (n : Nat) (g : Nat → Nat) : Prop := ∀ s, s < n → g s ≤ s ∧ g (g s) = g s
theorem fix.lt {n s : Nat} {g : Nat → Nat} (h : fix n g) (hs : s < n) : g s < n := Nat.lt_of_le_of_lt (h s hs).1 hs
theorem tog_eq {g : Nat → Nat} {a b s t : Nat} (h : g s = g t) : tog g a b s = tog g a b t := by unfold tog; rw [h]
theorem tog_same {g : Nat → Nat} {a b : Nat} : tog g a b a = tog g a b b := by
  unfold tog
  rcases Nat.le_total (g a) (g b) with h | h
  · rw [Nat.max_eq_right h, Nat.min_eq_left h]
    rw [if_pos rfl]
    split
    · rfl
    · rfl
  · rw [Nat.max_eq_left h, Nat.min_eq_right h]
    rw [if_pos rfl]
    split
    · rfl
    · rfl
theorem tog_fix {n : Nat} {g : Nat → Nat} {a b : Nat} (h : fix n g) (ha : a < n) (hb : b < n) : fix n (tog g a b) := by
  intro s hs
  obtain ⟨h1, h2⟩ := h s hs
  obtain ⟨a1, a2⟩ := h a ha
  obtain ⟨b1, b2⟩ := h b hb
  have hm : g (min (g a) (g b)) = min (g a) (g b) := by
    rcases Nat.le_total (g a) (g b) with q | q
    · rw [Nat.min_eq_left q]; exact a2
    · rw [Nat.min_eq_right q]; exact b2
  unfold tog
  by_cases e : g s = max (g a) (g b)
  · rw [if_pos e, hm]
    refine ⟨by omega, ?_⟩
    split <;> rfl
  · rw [if_neg e, h2, if_neg e]
    exact ⟨h1, rfl⟩
theorem tog_chi {n : Nat} {g : Nat → Nat} {a b : Nat} {χ : Nat → Bool} (h : ∀ s, s < n → χ s = χ (g s)) (ha : a < n) (hb : b < n) (hab : χ a = χ b) : ∀ s, s < n → χ s = χ (tog g a b s) := by
  intro s hs
  unfold tog
  have e1 := h a ha
  have e2 := h b hb
  have hm : χ (max (g a) (g b)) = χ (min (g a) (g b)) := by
    rcases Nat.le_total (g a) (g b) with q | q
    · rw [Nat.max_eq_right q, Nat.min_eq_left q, ← e1, ← e2, hab]
    · rw [Nat.max_eq_left q, Nat.min_eq_right q, ← e1, ← e2, hab]
  by_cases e : g s = max (g a) (g b)
  · rw [if_pos e, h s hs, e, hm]
  · rw [if_neg e]
    exact h s hs
def lbl (n : Nat) (pf : Nat → Int32) (g : Nat → Nat) : Prop := ∀ s, s < n → pf s = nI (g s)
section REF
variable {sc : ipSc} {d z M p : Nat} {h : HP} {kn ms kz : Int32} {t : Cur} {al : Nat → Int32} {P : PosT}
theorem t_hangs (H : mdA h M (mFs M kn t ms kz) al) (HR : rowIs al p P) (hp : p + 332 ≤ 52000) {pf : Nat → Int32} (Hp : h (M + 6) = some (.inl (0, 32, .inl pf))) {g : Nat → Nat} (hg : lbl P.1.length pf g) (hx : fix P.1.length g) {a b : Nat} (ha : a < P.1.length) (hb : b < P.1.length) : ipC sc (d + 1) 120 [.ref M, .int (nI p), .int (nI a), .int (nI b)] h z 0 0 (fun o h2 z2 => o = none ∧ z2 = z ∧ ∃ pf2, h2 = hup h (M + 6) (.inl (0, 32, .inl pf2)) ∧ lbl P.1.length pf2 (tog g a b)) := by
  have hB := HR.2.2.2.2.2
  have b1 := hB.1
  have la := hx.lt ha
  have lb := hx.lt hb
  have ga := hg a ha
  have gb := hg b hb
  refine ipC_mk [some (.ref M), some (.int (nI p)), some (.int (nI a)), some (.int (nI b)), none, none, none] rfl (Nat.le_of_ble_eq_true rfl) ?_
  have loop : ∀ (m s : Nat) (pf2 : Nat → Int32), s + m = P.1.length → (∀ x, x < P.1.length → pf2 x = nI (if x < s then tog g a b x else g x)) → ∀ o2 o3, ip sc (ipC sc d) 120 0 0 (fun o h2 z2 => o = none ∧ z2 = z ∧ ∃ pf2, h2 = hup h (M + 6) (.inl (0, 32, .inl pf2)) ∧ lbl P.1.length pf2 (tog g a b)) 67 [some (.ref M), some (.int (nI p)), o2, o3, some (.int (nI (min (g a) (g b)))), some (.int (nI (max (g a) (g b)))), some (.int (nI s))] [] (hup h (M + 6) (.inl (0, 32, .inl pf2))) z 0 0 := by
    intro m
    induction m with
    | zero =>
      intro s pf2 hsm hpf o2 o3
      refine c120_67 (hup_ne (by omega) H.1) rfl (hup_ne (by omega) H.2.2) (by omega) (by decide) (v9 := P.1.length) HR.1.1 (by omega) (by omega) (fun _ => c120_107 ⟨rfl, rfl, pf2, rfl, fun x hx => ?_⟩) (fun r => absurd (by omega) r)
      rw [hpf x hx, if_pos (by omega)]
    | succ m ih =>
      intro s pf2 hsm hpf o2 o3
      have hps := hpf s (by omega)
      rw [if_neg (by omega)] at hps
      have hgs := hx.lt (show s < P.1.length by omega)
      refine c120_67 (hup_ne (by omega) H.1) rfl (hup_ne (by omega) H.2.2) (by omega) (by decide) (v9 := P.1.length) HR.1.1 (by omega) (by omega) (fun r => absurd r (by omega)) (fun _ => ?_)
      refine c120_80 (hup_ne (by omega) H.1) rfl hup_eq (by omega) (by decide) hps (by omega) (by omega) (fun r => c120_101 ?_) (fun r => ?_)
      · refine ih (s + 1) pf2 (by omega) (fun x hx => ?_) o2 o3
        rw [hpf x hx]
        by_cases e : x = s
        · subst e
          rw [if_neg (by omega), if_pos (by omega)]
          unfold tog
          rw [if_neg r]
        · by_cases e2 : x < s
          · rw [if_pos e2, if_pos (by omega)]
          · rw [if_neg e2, if_neg (by omega)]
      · refine c120_92 (hup_ne (by omega) H.1) rfl hup_eq (by omega) (by decide) rfl ?_
        rw [hup_hup]
        refine c120_101 (ih (s + 1) _ (by omega) (fun x hx => ?_) o2 o3)
        by_cases e : x = s
        · subst e
          rw [pk_us, if_pos (by omega)]
          unfold tog
          rw [if_pos (Decidable.not_not.mp r)]
        · rw [pk_un e, hpf x hx]
          by_cases e2 : x < s
          · rw [if_pos e2, if_pos (by omega)]
          · rw [if_neg e2, if_neg (by omega)]
  have hz : h = hup h (M + 6) (.inl (0, 32, .inl pf)) := by
    funext x
    unfold hup
    split
    · rename_i q
      rw [q, Hp]
    · rfl
  have fin2 : ∀ o2 o3, ip sc (ipC sc d) 120 0 0 (fun o h2 z2 => o = none ∧ z2 = z ∧ ∃ pf2, h2 = hup h (M + 6) (.inl (0, 32, .inl pf2)) ∧ lbl P.1.length pf2 (tog g a b)) 67 [some (.ref M), some (.int (nI p)), o2, o3, some (.int (nI (min (g a) (g b)))), some (.int (nI (max (g a) (g b)))), some (.int (nI 0))] [] h z 0 0 := fun o2 o3 => by
    rw [hz]
    refine hz ▸ loop P.1.length 0 pf (by omega) (fun x hx => ?_) o2 o3
    rw [if_neg (by omega)]
    exact hg x hx
  refine c120_0 H.1 rfl Hp (by omega) (by decide) ga (by omega) gb (by omega) (by omega) (fun r => ?_) (fun r => ?_)
  · refine c120_24 H.1 rfl Hp (by omega) (by decide) gb (c120_30 H.1 rfl Hp (by omega) (by decide) ga (by omega) gb (by omega) (by omega) (fun _ => ?_) (fun q => absurd r q))
    refine c120_56 H.1 rfl Hp (by omega) (by decide) ga (c120_62 ?_)
    have := fin2 (some (.int (nI a))) (some (.int (nI b)))
    rw [Nat.min_eq_right r, Nat.max_eq_left r] at this
    exact this
  · refine c120_15 H.1 rfl Hp (by omega) (by decide) ga (c120_30 H.1 rfl Hp (by omega) (by decide) ga (by omega) gb (by omega) (by omega) (fun q => absurd q r) (fun _ => ?_))
    refine c120_47 H.1 rfl Hp (by omega) (by decide) gb (c120_62 ?_)
    have := fin2 (some (.int (nI a))) (some (.int (nI b)))
    rw [Nat.min_eq_left (by omega), Nat.max_eq_right (by omega)] at this
    exact this
theorem t_together (H : mdA h M (mFs M kn t ms kz) al) (HR : rowIs al p P) (hp : p + 332 ≤ 52000) {pf : Nat → Int32} (Hp : h (M + 7) = some (.inl (0, 32, .inl pf))) {g : Nat → Nat} (hg : lbl P.2.length pf g) (hx : fix P.2.length g) {a b : Nat} (ha : a < P.2.length) (hb : b < P.2.length) : ipC sc (d + 1) 138 [.ref M, .int (nI p), .int (nI a), .int (nI b)] h z 0 0 (fun o h2 z2 => o = none ∧ z2 = z ∧ ∃ pf2, h2 = hup h (M + 7) (.inl (0, 32, .inl pf2)) ∧ lbl P.2.length pf2 (tog g a b)) := by
  have hB := HR.2.2.2.2.2
  have b1 := hB.2.1
  have la := hx.lt ha
  have lb := hx.lt hb
  have ga := hg a ha
  have gb := hg b hb
  refine ipC_mk [some (.ref M), some (.int (nI p)), some (.int (nI a)), some (.int (nI b)), none, none, none] rfl (Nat.le_of_ble_eq_true rfl) ?_
  have loop : ∀ (m s : Nat) (pf2 : Nat → Int32), s + m = P.2.length → (∀ x, x < P.2.length → pf2 x = nI (if x < s then tog g a b x else g x)) → ∀ o2 o3, ip sc (ipC sc d) 138 0 0 (fun o h2 z2 => o = none ∧ z2 = z ∧ ∃ pf2, h2 = hup h (M + 7) (.inl (0, 32, .inl pf2)) ∧ lbl P.2.length pf2 (tog g a b)) 67 [some (.ref M), some (.int (nI p)), o2, o3, some (.int (nI (min (g a) (g b)))), some (.int (nI (max (g a) (g b)))), some (.int (nI s))] [] (hup h (M + 7) (.inl (0, 32, .inl pf2))) z 0 0 := by
    intro m
    induction m with
    | zero =>
      intro s pf2 hsm hpf o2 o3
      refine c138_67 (hup_ne (by omega) H.1) rfl (hup_ne (by omega) H.2.2) (by omega) (by decide) (v9 := P.2.length) HR.1.2.1 (by omega) (by omega) (fun _ => c138_107 ⟨rfl, rfl, pf2, rfl, fun x hx => ?_⟩) (fun r => absurd (by omega) r)
      rw [hpf x hx, if_pos (by omega)]
    | succ m ih =>
      intro s pf2 hsm hpf o2 o3
      have hps := hpf s (by omega)
      rw [if_neg (by omega)] at hps
      have hgs := hx.lt (show s < P.2.length by omega)
      refine c138_67 (hup_ne (by omega) H.1) rfl (hup_ne (by omega) H.2.2) (by omega) (by decide) (v9 := P.2.length) HR.1.2.1 (by omega) (by omega) (fun r => absurd r (by omega)) (fun _ => ?_)
      refine c138_80 (hup_ne (by omega) H.1) rfl hup_eq (by omega) (by decide) hps (by omega) (by omega) (fun r => c138_101 ?_) (fun r => ?_)
      · refine ih (s + 1) pf2 (by omega) (fun x hx => ?_) o2 o3
        rw [hpf x hx]
        by_cases e : x = s
        · subst e
          rw [if_neg (by omega), if_pos (by omega)]
          unfold tog
          rw [if_neg r]
        · by_cases e2 : x < s
          · rw [if_pos e2, if_pos (by omega)]
          · rw [if_neg e2, if_neg (by omega)]
      · refine c138_92 (hup_ne (by omega) H.1) rfl hup_eq (by omega) (by decide) rfl ?_
        rw [hup_hup]
        refine c138_101 (ih (s + 1) _ (by omega) (fun x hx => ?_) o2 o3)
        by_cases e : x = s
        · subst e
          rw [pk_us, if_pos (by omega)]
          unfold tog
          rw [if_pos (Decidable.not_not.mp r)]
        · rw [pk_un e, hpf x hx]
          by_cases e2 : x < s
          · rw [if_pos e2, if_pos (by omega)]
          · rw [if_neg e2, if_neg (by omega)]
  have hz : h = hup h (M + 7) (.inl (0, 32, .inl pf)) := by
    funext x
    unfold hup
    split
    · rename_i q
      rw [q, Hp]
    · rfl
  have fin2 : ∀ o2 o3, ip sc (ipC sc d) 138 0 0 (fun o h2 z2 => o = none ∧ z2 = z ∧ ∃ pf2, h2 = hup h (M + 7) (.inl (0, 32, .inl pf2)) ∧ lbl P.2.length pf2 (tog g a b)) 67 [some (.ref M), some (.int (nI p)), o2, o3, some (.int (nI (min (g a) (g b)))), some (.int (nI (max (g a) (g b)))), some (.int (nI 0))] [] h z 0 0 := fun o2 o3 => by
    rw [hz]
    refine hz ▸ loop P.2.length 0 pf (by omega) (fun x hx => ?_) o2 o3
    rw [if_neg (by omega)]
    exact hg x hx
  refine c138_0 H.1 rfl Hp (by omega) (by decide) ga (by omega) gb (by omega) (by omega) (fun r => ?_) (fun r => ?_)
  · refine c138_24 H.1 rfl Hp (by omega) (by decide) gb (c138_30 H.1 rfl Hp (by omega) (by decide) ga (by omega) gb (by omega) (by omega) (fun _ => ?_) (fun q => absurd r q))
    refine c138_56 H.1 rfl Hp (by omega) (by decide) ga (c138_62 ?_)
    have := fin2 (some (.int (nI a))) (some (.int (nI b)))
    rw [Nat.min_eq_right r, Nat.max_eq_left r] at this
    exact this
  · refine c138_15 H.1 rfl Hp (by omega) (by decide) ga (c138_30 H.1 rfl Hp (by omega) (by decide) ga (by omega) gb (by omega) (by omega) (fun q => absurd q r) (fun _ => ?_))
    refine c138_47 H.1 rfl Hp (by omega) (by decide) gb (c138_62 ?_)
    have := fin2 (some (.int (nI a))) (some (.int (nI b)))
    rw [Nat.min_eq_left (by omega), Nat.max_eq_right (by omega)] at this
    exact this
end REF

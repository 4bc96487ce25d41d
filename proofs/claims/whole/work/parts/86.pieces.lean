/-! the reference's pieces -/
def cntF (g : Nat → Nat) : Nat → Nat
  | 0 => 0
  | n + 1 => cntF g n + (if g n = n then 1 else 0)
/-- labels of the pieces -/
def good (P : PosT) (g : Nat → Nat) : Prop := fix P.1.length g ∧ (∀ x ∈ pW P, ∀ a ∈ x, ∀ b ∈ x, g a = g b) ∧ ∀ χ : Nat → Bool, (∀ x ∈ pW P, ∀ a ∈ x, ∀ b ∈ x, χ a = χ b) → ∀ s, s < P.1.length → χ s = χ (g s)
section REF
variable {sc : ipSc} {d z M p : Nat} {h : HP} {kn ms kz : Int32} {t : Cur} {al pf : Nat → Int32} {P : PosT}
set_option maxHeartbeats 1000000 in
theorem t_pieces (H : mdA h M (mFs M kn t ms kz) al) (Hp : h (M + 6) = some (.inl (0, 32, .inl pf))) (HR : rowIs al p P) (hp : p + 332 ≤ 52000) (hok : posOK P) (hne : ∀ x ∈ pW P, x ≠ []) : ipC sc (d + 2) 119 [.ref M, .int (nI p)] h z 0 0 (fun o h2 z2 => z2 = z ∧ ∃ pf2 g, h2 = mP h M pf2 ∧ good P g ∧ o = some (.int (nI (cntF g P.1.length)))) := by
  have hB := HR.2.2.2.2.2
  have b1 := hB.1
  have b3 := hB.2.2.1
  have b4 := hB.2.2.2
  have H2 : ∀ pf2, mdA (mP h M pf2) M (mFs M kn t ms kz) al := fun pf2 => H.pp
  have em : ∀ pf2 pf3, hup (mP h M pf2) (M + 6) (.inl (0, 32, .inl pf3)) = mP h M pf3 := fun _ _ => hup_hup
  generalize hQ : (fun (o : Option Value) (h2 : HP) (z2 : Nat) => z2 = z ∧ ∃ pf2 g, h2 = mP h M pf2 ∧ good P g ∧ o = some (.int (nI (cntF g P.1.length)))) = Q0
  refine ipC_mk [some (.ref M), some (.int (nI p)), none, none, none] rfl (Nat.le_of_ble_eq_true rfl) (c119_0 ?_)
  have cnt : ∀ (m s : Nat) (pf2 : Nat → Int32) (g : Nat → Nat) (o2 : Option Value), s + m = P.1.length → ip2 o2 = false → lbl P.1.length pf2 g → good P g → ip sc (ipC sc (d + 1)) 119 0 0 Q0 117 [some (.ref M), some (.int (nI p)), o2, some (.int (nI (cntF g s))), some (.int (nI s))] [] (mP h M pf2) z 0 0 := by
    intro m
    induction m with
    | zero =>
      intro s pf2 g o2 hs ho hl hg
      refine c119_117 (H2 _).1 rfl (H2 _).2.2 (by omega) (by decide) (v9 := P.1.length) HR.1.1 (by omega) (by omega) (fun _ => c119_156 ?_) (fun r => absurd (by omega) r)
      rw [← hQ, show s = P.1.length by omega]
      exact ⟨rfl, pf2, g, rfl, hg, rfl⟩
    | succ m ih =>
      intro s pf2 g o2 hs ho hl hg
      have hgs := hg.1.lt (show s < P.1.length by omega)
      have ih := ih (s + 1) pf2 g o2 (by omega) ho hl hg
      refine c119_117 (H2 _).1 rfl (H2 _).2.2 (by omega) (by decide) (v9 := P.1.length) HR.1.1 (by omega) (by omega) (fun r => absurd r (by omega)) (fun _ => ?_)
      refine c119_130 (H2 _).1 rfl hup_eq (by omega) (by decide) (hl s (by omega)) (by omega) (by omega) (fun e => c119_147 (c119_148 ho ?_)) (fun e => c119_143 (c119_148 ho ?_))
      · have e2 : cntF g (s + 1) = cntF g s + 0 := by show _ + (if _ then _ else _) = _; rw [if_neg e]
        rw [e2] at ih
        exact ih
      · have e2 : cntF g (s + 1) = cntF g s + 1 := by show _ + (if _ then _ else _) = _; rw [if_pos (Decidable.not_not.mp e)]
        rw [e2] at ih
        exact ih
  have walls : ∀ (m w : Nat) (pf2 : Nat → Int32) (g : Nat → Nat) (o4 : Option Value), w + m = (pW P).length → lbl P.1.length pf2 g → fix P.1.length g → (∀ x ∈ (pW P).take w, ∀ a ∈ x, ∀ b ∈ x, g a = g b) → (∀ χ : Nat → Bool, (∀ x ∈ pW P, ∀ a ∈ x, ∀ b ∈ x, χ a = χ b) → ∀ s, s < P.1.length → χ s = χ (g s)) → ip sc (ipC sc (d + 1)) 119 0 0 Q0 35 [some (.ref M), some (.int (nI p)), some (.int (nI (p + 132 + lSt (pW P) w))), some (.int (nI w)), o4] [] (mP h M pf2) z 0 0 := by
    intro m
    induction m with
    | zero =>
      intro w pf2 g o4 hw hl hx hc hχ
      refine c119_35 (H2 _).1 rfl (H2 _).2.2 (by omega) (by decide) (v9 := (pW P).length) HR.1.2.2.1 (by omega) (by omega) (fun _ => c119_112 rfl ?_) (fun r => absurd (by omega) r)
      rw [List.take_of_length_le (by omega)] at hc
      exact cnt P.1.length 0 pf2 g _ (by omega) rfl hl ⟨hx, hc, hχ⟩
    | succ m ih =>
      intro w pf2 g o4 hw hl hx hc hχ
      obtain ⟨x, hwx⟩ := gt_some (l := pW P) (i := w) (by omega)
      have hxl := wall_len hB hwx
      have hxm := List.mem_of_getElem? hwx
      have hx0 : 0 < x.length := List.length_pos_iff.mpr (hne x hxm)
      have hsp : ∀ i a, x[i]? = some a → a < P.1.length := fun i a ha => hok.1 a (List.mem_flatten.mpr ⟨x, hxm, List.mem_of_getElem? ha⟩)
      have hco : ∀ i a, x[i]? = some a → al (p + 132 + lSt (pW P) w + i) = nI a ∧ lSt (pW P) w + i < 200 := fun i a ha => by
        have h1 : (pC P)[lSt (pW P) w + i]? = some a := lSt_at hwx ha
        have h2 := lt_some h1
        exact ⟨by rw [Nat.add_assoc (p + 132)]; exact HR.co h1, by omega⟩
      obtain ⟨a0, ha0⟩ := gt_some (l := x) (i := 0) hx0
      refine c119_35 (H2 _).1 rfl (H2 _).2.2 (by omega) (by decide) (v9 := (pW P).length) HR.1.2.2.1 (by omega) (by omega) (fun r => absurd r (by omega)) (fun _ => c119_47 ?_)
      have inner : ∀ (m2 k : Nat) (pf3 : Nat → Int32) (g3 : Nat → Nat), k + m2 = x.length → 1 ≤ k → lbl P.1.length pf3 g3 → fix P.1.length g3 → (∀ y ∈ (pW P).take w, ∀ a ∈ y, ∀ b ∈ y, g3 a = g3 b) → (∀ i a, i < k → x[i]? = some a → g3 a = g3 a0) → (∀ χ : Nat → Bool, (∀ x ∈ pW P, ∀ a ∈ x, ∀ b ∈ x, χ a = χ b) → ∀ s, s < P.1.length → χ s = χ (g3 s)) → ip sc (ipC sc (d + 1)) 119 0 0 Q0 50 [some (.ref M), some (.int (nI p)), some (.int (nI (p + 132 + lSt (pW P) w))), some (.int (nI w)), some (.int (nI k))] [] (mP h M pf3) z 0 0 := by
        intro m2
        induction m2 with
        | zero =>
          intro k pf3 g3 hk hk1 hl3 hx3 hc3 hi3 hχ3
          refine c119_50 (H2 _).1 rfl (H2 _).2.2 (by omega) (by decide) (HR.wl hwx) (by omega) (by omega) (fun _ => ?_) (fun r => absurd (by omega) r)
          refine c119_92 (H2 _).1 rfl (H2 _).2.2 (by omega) (by decide) (HR.wl hwx) ?_
          have := ih (w + 1) pf3 g3 (some (.int (nI k))) (by omega) hl3 hx3 (fun y hy => ?_) hχ3
          · rw [lSt_s hwx, ← Nat.add_assoc (p + 132)] at this
            exact this
          · rw [List.take_succ, hwx] at hy
            rcases List.mem_append.mp hy with hy | hy
            · exact hc3 y hy
            · have hy : y = x := by simpa using hy
              subst hy
              intro a ha b hb
              obtain ⟨i, hi⟩ := List.getElem?_of_mem ha
              obtain ⟨j, hj⟩ := List.getElem?_of_mem hb
              have := lt_some hi
              have := lt_some hj
              rw [hi3 i a (by omega) hi, hi3 j b (by omega) hj]
        | succ m2 ih2 =>
          intro k pf3 g3 hk hk1 hl3 hx3 hc3 hi3 hχ3
          obtain ⟨b, hb⟩ := gt_some (l := x) (i := k) (by omega)
          obtain ⟨q1, q2⟩ := hco 0 a0 ha0
          obtain ⟨q3, q4⟩ := hco k b hb
          refine c119_50 (H2 _).1 rfl (H2 _).2.2 (by omega) (by decide) (HR.wl hwx) (by omega) (by omega) (fun r => absurd r (by omega)) (fun _ => ?_)
          refine c119_66 (H2 _).1 rfl (H2 _).2.2 (by omega) (by decide) q1 (by omega) q3 (Nat.zero_le _) (Nat.zero_le _) (t_hangs (H2 _) HR hp hup_eq hl3 hx3 (hsp 0 a0 ha0) (hsp k b hb)) ?_
          rintro o h4 z4 ⟨rfl, rfl, pf4, rfl, hl4⟩
          rw [em]
          refine c119_86 (ih2 (k + 1) pf4 (tog g3 a0 b) (by omega) (by omega) hl4 (tog_fix hx3 (hsp 0 a0 ha0) (hsp k b hb)) (fun y hy c hc d hd => tog_eq (hc3 y hy c hc d hd)) (fun i c hi hc => ?_) (fun χ hχc => tog_chi (hχ3 χ hχc) (hsp 0 a0 ha0) (hsp k b hb) (hχc x hxm a0 (List.mem_of_getElem? ha0) b (List.mem_of_getElem? hb))))
          by_cases e : i = k
          · subst e
            rw [hb] at hc
            rw [← Option.some.inj hc]
            exact tog_same.symm
          · exact tog_eq (hi3 i c (by omega) hc)
      exact inner (x.length - 1) 1 pf2 g (by omega) (Nat.le_refl _) hl hx hc (fun i a hi ha => by
        have : i = 0 := by omega
        subst this
        rw [ha0] at ha
        rw [Option.some.inj ha]) hχ
  have loop0 : ∀ (m s : Nat) (pf2 : Nat → Int32), s + m = P.1.length → (∀ x, x < s → pf2 x = nI x) → ip sc (ipC sc (d + 1)) 119 0 0 Q0 2 [some (.ref M), some (.int (nI p)), some (.int (nI s)), none, none] [] (mP h M pf2) z 0 0 := by
    intro m
    induction m with
    | zero =>
      intro s pf2 hs hl
      refine c119_2 (H2 _).1 rfl (H2 _).2.2 (by omega) (by decide) (v9 := P.1.length) HR.1.1 (by omega) (by omega) (fun _ => c119_27 ?_) (fun r => absurd (by omega) r)
      have := walls (pW P).length 0 pf2 (fun s => s) none (by omega) (fun x hx => hl x (by omega)) (fun s _ => ⟨Nat.le_refl _, rfl⟩) (fun x hx => (by cases hx)) (fun χ _ s _ => rfl)
      rw [lSt_0, Nat.add_zero] at this
      exact this
    | succ m ih =>
      intro s pf2 hs hl
      refine c119_2 (H2 _).1 rfl (H2 _).2.2 (by omega) (by decide) (v9 := P.1.length) HR.1.1 (by omega) (by omega) (fun r => absurd r (by omega)) (fun _ => ?_)
      refine c119_14 (H2 _).1 rfl hup_eq (by omega) (by decide) rfl ?_
      rw [em]
      refine ih (s + 1) _ (by omega) fun x hx => ?_
      by_cases e : x = s
      · rw [e, pk_us]
      · rw [pk_un e]
        exact hl x (by omega)
  have := loop0 P.1.length 0 pf (by omega) fun x hx => absurd hx (Nat.not_lt_zero _)
  rw [mP_self Hp] at this
  exact this
end REF

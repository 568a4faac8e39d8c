/-! ===== conditions: what the signs alone say ===== -/
/-- a condition out of its signs: 0 a part, 1 all of, 2 any of, 3 and 4 the rests of these -/
def kg : Nat → Nat → (Nat → Nat → Bool) → List Nat → Option ((Nat → Nat → Bool) × List Nat)
  | 0, _, _, _ => none
  | f + 1, m, H0, l =>
    if m = 0 then (match l with
      | [] => none
      | c :: r => if c = 91 then (match kg f 2 H0 r with
          | some (H, d :: r') => if d = 93 then some (H, r') else none
          | _ => none)
        else if c = 18 then (match kg f 0 H0 r with
          | some (H, r') => some ((fun a b => !H a b), r')
          | none => none)
        else (match r with
          | s :: e :: r' => some (kt_cm c s e, r')
          | _ => none))
    else if m = 1 then (match kg f 0 H0 l with
      | some (H, r) => kg f 3 H r
      | none => none)
    else if m = 2 then (match kg f 1 H0 l with
      | some (H, r) => kg f 4 H r
      | none => none)
    else if m = 3 then (match l with
      | [] => some (H0, [])
      | c :: r => if c = 19 then (match kg f 0 H0 r with
          | some (H, r') => kg f 3 (fun a b => H0 a b && H a b) r'
          | none => none) else some (H0, c :: r))
    else (match l with
      | [] => some (H0, [])
      | c :: r => if c = 20 then (match kg f 1 H0 r with
          | some (H, r') => kg f 4 (fun a b => H0 a b || H a b) r'
          | none => none) else some (H0, c :: r))
def kOk (m : Nat) (rest : List Nat) : Prop := (1 ≤ m → rest.head? ≠ some 19) ∧ (m = 2 ∨ m = 4 → rest.head? ≠ some 20)
def kTk (m : Nat) (H0 : Nat → Nat → Bool) (tk : List Nat) (H : Nat → Nat → Bool) : Prop := (m = 4 → tk = [] ∨ tk.head? = some 20) ∧ ∀ rest, kOk m rest → ∃ F, ∀ f, F ≤ f → kg f m H0 (tk ++ rest) = some (H, rest)
section TK
variable {H0 H H2 : Nat → Nat → Bool} {tk tk2 : List Nat}
theorem kg_br {f : Nat} {r : List Nat} : kg (f + 1) 0 H0 (91 :: r) = (match kg f 2 H0 r with
    | some (H, d :: r') => if d = 93 then some (H, r') else none
    | _ => none) := rfl
theorem kg_nt {f : Nat} {r : List Nat} : kg (f + 1) 0 H0 (18 :: r) = (match kg f 0 H0 r with
    | some (H, r') => some ((fun a b => !H a b), r')
    | none => none) := rfl
theorem kg_an {f : Nat} {r : List Nat} : kg (f + 1) 3 H0 (19 :: r) = (match kg f 0 H0 r with
    | some (H, r') => kg f 3 (fun a b => H0 a b && H a b) r'
    | none => none) := rfl
theorem kg_or {f : Nat} {r : List Nat} : kg (f + 1) 4 H0 (20 :: r) = (match kg f 1 H0 r with
    | some (H, r') => kg f 4 (fun a b => H0 a b || H a b) r'
    | none => none) := rfl
theorem kTk_cmp {c s e : Nat} (hc : c ≤ 17) : kTk 0 H0 [c, s, e] (kt_cm c s e) := by
  refine ⟨fun z => absurd z (by decide), fun rest _ => ⟨1, fun f hf => ?_⟩⟩
  obtain ⟨f', rfl⟩ : ∃ f', f = f' + 1 := ⟨f - 1, by omega⟩
  show (if c = 91 then _ else if c = 18 then _ else some (kt_cm c s e, rest)) = _
  rw [if_neg (by omega), if_neg (by omega)]
theorem kTk_br (h : kTk 2 H0 tk H) : kTk 0 H0 ([91] ++ (tk ++ [93])) H := by
  refine ⟨fun z => absurd z (by decide), fun rest _ => ?_⟩
  obtain ⟨F, hF⟩ := h.2 (93 :: rest) ⟨fun _ z => (by cases z), fun _ z => by cases z⟩
  refine ⟨F + 1, fun f hf => ?_⟩
  obtain ⟨f', rfl⟩ : ∃ f', f = f' + 1 := ⟨f - 1, by omega⟩
  have e : [91] ++ (tk ++ [93]) ++ rest = 91 :: (tk ++ 93 :: rest) := by simp
  rw [e]
  rw [kg_br, hF f' (by omega)]
  exact if_pos rfl
theorem kTk_nt (h : kTk 0 H0 tk H) : kTk 0 H0 ([18] ++ tk) (fun a b => !H a b) := by
  refine ⟨fun z => absurd z (by decide), fun rest hr => ?_⟩
  obtain ⟨F, hF⟩ := h.2 rest hr
  refine ⟨F + 1, fun f hf => ?_⟩
  obtain ⟨f', rfl⟩ : ∃ f', f = f' + 1 := ⟨f - 1, by omega⟩
  rw [show [18] ++ tk ++ rest = 18 :: (tk ++ rest) by simp, kg_nt, hF f' (by omega)]
theorem kTk_a0 : kTk 3 H0 [] H0 := by
  refine ⟨fun z => absurd z (by decide), fun rest hr => ⟨1, fun f hf => ?_⟩⟩
  obtain ⟨f', rfl⟩ : ∃ f', f = f' + 1 := ⟨f - 1, by omega⟩
  cases rest with
  | nil => rfl
  | cons c r =>
    have : c ≠ 19 := fun z => hr.1 (by decide) (by rw [z]; rfl)
    show (if c = 19 then _ else some (H0, c :: r)) = _
    rw [if_neg this]
theorem kTk_o0 : kTk 4 H0 [] H0 := by
  refine ⟨fun _ => Or.inl rfl, fun rest hr => ⟨1, fun f hf => ?_⟩⟩
  obtain ⟨f', rfl⟩ : ∃ f', f = f' + 1 := ⟨f - 1, by omega⟩
  cases rest with
  | nil => rfl
  | cons c r =>
    have : c ≠ 20 := fun z => hr.2 (Or.inr rfl) (by rw [z]; rfl)
    show (if c = 20 then _ else some (H0, c :: r)) = _
    rw [if_neg this]
theorem kTk_a (h1 : kTk 0 H0 tk H) (h2 : kTk 3 (fun a b => H0 a b && H a b) tk2 H2) : kTk 3 H0 ([19] ++ tk ++ tk2) H2 := by
  refine ⟨fun z => absurd z (by decide), fun rest hr => ?_⟩
  obtain ⟨F1, hF1⟩ := h1.2 (tk2 ++ rest) ⟨fun z => absurd z (by decide), fun z => by omega⟩
  obtain ⟨F2, hF2⟩ := h2.2 rest hr
  refine ⟨F1 + F2 + 1, fun f hf => ?_⟩
  obtain ⟨f', rfl⟩ : ∃ f', f = f' + 1 := ⟨f - 1, by omega⟩
  have e : [19] ++ tk ++ tk2 ++ rest = 19 :: (tk ++ (tk2 ++ rest)) := by simp
  rw [e]
  rw [kg_an, hF1 f' (by omega)]
  exact hF2 f' (by omega)
theorem kTk_f (h1 : kTk 0 H0 tk H) (h2 : kTk 3 H tk2 H2) : kTk 1 H0 (tk ++ tk2) H2 := by
  refine ⟨fun z => absurd z (by decide), fun rest hr => ?_⟩
  obtain ⟨F1, hF1⟩ := h1.2 (tk2 ++ rest) ⟨fun z => absurd z (by decide), fun z => by omega⟩
  obtain ⟨F2, hF2⟩ := h2.2 rest ⟨fun _ => hr.1 (by decide), fun z => by omega⟩
  refine ⟨F1 + F2 + 1, fun f hf => ?_⟩
  obtain ⟨f', rfl⟩ : ∃ f', f = f' + 1 := ⟨f - 1, by omega⟩
  rw [List.append_assoc]
  show (match kg f' 0 H0 (tk ++ (tk2 ++ rest)) with
      | some (H, r) => kg f' 3 H r
      | none => none) = _
  rw [hF1 f' (by omega)]
  exact hF2 f' (by omega)
theorem kTk_ok1 {rest : List Nat} (h : tk2 = [] ∨ tk2.head? = some 20) (hr : rest.head? ≠ some 19) : kOk 1 (tk2 ++ rest) := by
  refine ⟨fun _ => ?_, fun z => by omega⟩
  rcases h with z | z
  · rw [z]; exact hr
  · cases tk2 with
    | nil => cases z
    | cons c r =>
      have : c = 20 := Option.some.inj z
      rw [this]
      exact fun y => by cases y
theorem kTk_o (h1 : kTk 1 H0 tk H) (h2 : kTk 4 (fun a b => H0 a b || H a b) tk2 H2) : kTk 4 H0 ([20] ++ tk ++ tk2) H2 := by
  refine ⟨fun _ => Or.inr rfl, fun rest hr => ?_⟩
  obtain ⟨F1, hF1⟩ := h1.2 (tk2 ++ rest) (kTk_ok1 (h2.1 rfl) (hr.1 (by decide)))
  obtain ⟨F2, hF2⟩ := h2.2 rest hr
  refine ⟨F1 + F2 + 1, fun f hf => ?_⟩
  obtain ⟨f', rfl⟩ : ∃ f', f = f' + 1 := ⟨f - 1, by omega⟩
  have e : [20] ++ tk ++ tk2 ++ rest = 20 :: (tk ++ (tk2 ++ rest)) := by simp
  rw [e]
  rw [kg_or, hF1 f' (by omega)]
  exact hF2 f' (by omega)
theorem kTk_g (h1 : kTk 1 H0 tk H) (h2 : kTk 4 H tk2 H2) : kTk 2 H0 (tk ++ tk2) H2 := by
  refine ⟨fun z => absurd z (by decide), fun rest hr => ?_⟩
  obtain ⟨F1, hF1⟩ := h1.2 (tk2 ++ rest) (kTk_ok1 (h2.1 rfl) (hr.1 (by decide)))
  obtain ⟨F2, hF2⟩ := h2.2 rest ⟨fun _ => hr.1 (by decide), fun _ => hr.2 (Or.inl rfl)⟩
  refine ⟨F1 + F2 + 1, fun f hf => ?_⟩
  obtain ⟨f', rfl⟩ : ∃ f', f = f' + 1 := ⟨f - 1, by omega⟩
  rw [List.append_assoc]
  show (match kg f' 1 H0 (tk ++ (tk2 ++ rest)) with
      | some (H, r) => kg f' 4 H r
      | none => none) = _
  rw [hF1 f' (by omega)]
  exact hF2 f' (by omega)
/-- the same signs say the same -/
theorem kTk_u (h1 : kTk 2 H0 tk H) (h2 : kTk 2 H0 tk H2) : H = H2 := by
  have ok : kOk 2 [] := ⟨fun _ z => (by cases z), fun _ z => by cases z⟩
  obtain ⟨F1, hF1⟩ := h1.2 [] ok
  obtain ⟨F2, hF2⟩ := h2.2 [] ok
  have e := (hF1 (F1 + F2) (by omega)).symm.trans (hF2 (F1 + F2) (by omega))
  exact (Prod.mk.inj (Option.some.inj e)).1
end TK
def kTd (m : Nat) (o : kO) : Prop := ∀ p' tk cd H, o = .inr (p', tk, cd, H) → ∀ H0, kTk m H0 tk H
def kTc (m : Nat) (H0 : Nat → Nat → Bool) (o : kO) : Prop := ∀ p' tk cd H, o = .inr (p', tk, cd, H) → kTk m H0 tk H
theorem kTd_l {m : Nat} {x : Nat × Nat} : kTd m (.inl x) := fun p' tk cd H e => by cases e
theorem kTd_r {m p' : Nat} {tk : List Nat} {cd : List Int32} {H : Nat → Nat → Bool} (h : ∀ H0, kTk m H0 tk H) : kTd m (.inr (p', tk, cd, H)) := fun p2 tk2 cd2 H2 e => by
  injection e with e
  injection e with a1 a2
  injection a2 with a2 a3
  injection a3 with a3 a4
  subst a1 a2 a3 a4
  exact h
theorem kTc_l {m : Nat} {x : Nat × Nat} {H0 : Nat → Nat → Bool} : kTc m H0 (.inl x) := fun p' tk cd H e => by cases e
theorem kTc_r {m p' : Nat} {tk : List Nat} {cd : List Int32} {H H0 : Nat → Nat → Bool} (h : kTk m H0 tk H) : kTc m H0 (.inr (p', tk, cd, H)) := fun p2 tk2 cd2 H2 e => by
  injection e with e
  injection e with a1 a2
  injection a2 with a2 a3
  injection a3 with a3 a4
  subst a1 a2 a3 a4
  exact h
theorem kT_cmp {tp : Nat → Int32} {n p : Nat} (hp : p ≤ n) : kTd 0 (kt_cmp tp n p) := by
  unfold kt_cmp
  split
  · exact kTd_l
  · rename_i p1 c1 h1
    split
    · exact kTd_l
    · split
      · exact kTd_l
      · exact kTd_r fun H0 => kTk_cmp (kt_tm_rg hp h1).2.2
theorem kT_br {tp : Nat → Int32} {n : Nat} {o : kO} (h : kTd 2 o) : kTd 0 (kt_br tp n o) := by
  unfold kt_br
  split
  · exact kTd_l
  · split
    · exact kTd_r fun H0 => kTk_br (h _ _ _ _ rfl H0)
    · exact kTd_l
theorem kT_nt {o : kO} (h : kTd 0 o) : kTd 0 (kt_nt o) := by
  unfold kt_nt
  split
  · exact kTd_l
  · exact kTd_r fun H0 => kTk_nt (h _ _ _ _ rfl H0)
theorem kT_an {H0 : Nat → Nat → Bool} {o1 : kO} {rest : Nat → (Nat → Nat → Bool) → kO} (h : kTd 0 o1) (hR : ∀ p1 tk cd H, o1 = .inr (p1, tk, cd, H) → kTc 3 (fun a b => H0 a b && H a b) (rest p1 (fun a b => H0 a b && H a b))) : kTc 3 H0 (kan_o H0 o1 rest) := by
  unfold kan_o
  split
  · exact kTc_l
  · split
    · exact kTc_l
    · rename_i ho
      exact kTc_r (kTk_a (h _ _ _ _ rfl H0) (hR _ _ _ _ rfl _ _ _ _ ho))
theorem kT_or {H0 : Nat → Nat → Bool} {o1 : kO} {rest : Nat → (Nat → Nat → Bool) → kO} (h : kTd 1 o1) (hR : ∀ p1 tk cd H, o1 = .inr (p1, tk, cd, H) → kTc 4 (fun a b => H0 a b || H a b) (rest p1 (fun a b => H0 a b || H a b))) : kTc 4 H0 (kor_o H0 o1 rest) := by
  unfold kor_o
  split
  · exact kTc_l
  · split
    · exact kTc_l
    · rename_i ho
      exact kTc_r (kTk_o (h _ _ _ _ rfl H0) (hR _ _ _ _ rfl _ _ _ _ ho))
theorem kT_anf {o1 : kO} {rest : Nat → (Nat → Nat → Bool) → kO} (h : kTd 0 o1) (hR : ∀ p1 tk cd H, o1 = .inr (p1, tk, cd, H) → kTc 3 H (rest p1 H)) : kTd 1 (kan_f o1 rest) := by
  unfold kan_f
  split
  · exact kTd_l
  · split
    · exact kTd_l
    · rename_i ho
      exact kTd_r fun H0 => kTk_f (h _ _ _ _ rfl H0) (hR _ _ _ _ rfl _ _ _ _ ho)
theorem kT_orf {o1 : kO} {rest : Nat → (Nat → Nat → Bool) → kO} (h : kTd 1 o1) (hR : ∀ p1 tk cd H, o1 = .inr (p1, tk, cd, H) → kTc 4 H (rest p1 H)) : kTd 2 (kor_f o1 rest) := by
  unfold kor_f
  split
  · exact kTd_l
  · split
    · exact kTd_l
    · rename_i ho
      exact kTd_r fun H0 => kTk_g (h _ _ _ _ rfl H0) (hR _ _ _ _ rfl _ _ _ _ ho)

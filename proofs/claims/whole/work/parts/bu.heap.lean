/-! ===== the heap at the start of the loop ===== -/
def kEK : List (Nat × Nat × Nat × Nat) → Nat → Nat → Nat × Nat → Nat × Nat
  | [], _, _, x => x
  | u :: l, n, a, x => if u.1 = 0 then kEK l (n + 1) a (if a = n then (u.2.1, u.2.2.1) else x) else if u.1 = 1 then kEK l n a x else if u.1 = 2 then kEK l n a x else kEK l (n + (u.2.1 + 1)) a (if a = n then (37, u.2.1) else if n < a ∧ a ≤ n + u.2.1 then (30, u.2.2.1) else x)
def kEP : List (Nat × Nat × Nat × Nat) → Nat → Nat → Nat → Nat → Nat
  | [], _, _, _, x => x
  | u :: l, n, a, f, x => if u.1 = 0 then kEP l (n + 1) a f (if a = n then 0 else x) else if u.1 = 1 then kEP l n a f (if a = u.2.1 then (if f = u.2.2.1 then u.2.2.2 else x) else x) else if u.1 = 2 then kEP l n a f x else kEP l (n + (u.2.1 + 1)) a f (if a = n then n + 1 + f else if n < a ∧ a ≤ n + u.2.1 then 0 else x)
def kEI : List (Nat × Nat × Nat × Nat) → Nat → Nat → Nat → Int32 → Int32
  | [], _, _, _, x => x
  | u :: l, n, a, f, x => if u.1 = 0 then kEI l (n + 1) a f (if a = n then 0 else x) else if u.1 = 1 then kEI l n a f x else if u.1 = 2 then kEI l n a f (if a = u.2.1 then (if f = u.2.2.1 then -1 else x) else x) else kEI l (n + (u.2.1 + 1)) a f (if n ≤ a ∧ a ≤ n + u.2.1 then 0 else x)
def kEs : List (Nat × Nat × Nat × Nat) → Nat → Nat
  | [], x => x
  | u :: l, x => if u.1 = 0 then kEs l (x + u.2.2.2) else if u.1 = 1 then kEs l x else if u.1 = 2 then kEs l x else kEs l (x + (u.2.1 + u.2.1 * u.2.2.1))
theorem kEK_e : ∀ (l : List (Nat × Nat × Nat × Nat)) (h : ka_H) (a : Nat), ka_K (kUl l h) a = kEK l h.1 a (ka_K h a)
  | [], h, a => rfl
  | u :: l, h, a => by
    rw [kUl_c, kEK_e l (ku u h) a, ku_n]
    unfold ku
    rw [kEK]
    by_cases c0 : u.1 = 0
    · simp only [if_pos c0]; rfl
    · by_cases c1 : u.1 = 1
      · simp only [if_neg c0, if_pos c1]; rfl
      · by_cases c2 : u.1 = 2
        · simp only [if_neg c0, if_neg c1, if_pos c2]; rfl
        · simp only [if_neg c0, if_neg c1, if_neg c2]; rfl
theorem kEP_e : ∀ (l : List (Nat × Nat × Nat × Nat)) (h : ka_H) (a f : Nat), ka_P (kUl l h) a f = kEP l h.1 a f (ka_P h a f)
  | [], h, a, f => rfl
  | u :: l, h, a, f => by
    rw [kUl_c, kEP_e l (ku u h) a f, ku_n]
    unfold ku
    rw [kEP]
    by_cases c0 : u.1 = 0
    · simp only [if_pos c0]
      refine congrArg (kEP l (h.1 + 1) a f) ?_
      show (if a = h.1 then (fun _ => 0) else ka_P h a) f = _
      by_cases c : a = h.1
      · rw [if_pos c, if_pos c]
      · rw [if_neg c, if_neg c]
    · by_cases c1 : u.1 = 1
      · simp only [if_neg c0, if_pos c1]; rfl
      · by_cases c2 : u.1 = 2
        · simp only [if_neg c0, if_neg c1, if_pos c2]; rfl
        · simp only [if_neg c0, if_neg c1, if_neg c2]
          refine congrArg (kEP l (h.1 + (u.2.1 + 1)) a f) ?_
          show (if a = h.1 then (fun j => h.1 + 1 + j) else if h.1 < a ∧ a ≤ h.1 + u.2.1 then (fun _ => 0) else ka_P h a) f = _
          by_cases c : a = h.1
          · rw [if_pos c, if_pos c]
          · rw [if_neg c, if_neg c]
            by_cases c' : h.1 < a ∧ a ≤ h.1 + u.2.1
            · rw [if_pos c', if_pos c']
            · rw [if_neg c', if_neg c']
theorem kEI_e : ∀ (l : List (Nat × Nat × Nat × Nat)) (h : ka_H) (a f : Nat), ka_I (kUl l h) a f = kEI l h.1 a f (ka_I h a f)
  | [], h, a, f => rfl
  | u :: l, h, a, f => by
    rw [kUl_c, kEI_e l (ku u h) a f, ku_n]
    unfold ku
    rw [kEI]
    by_cases c0 : u.1 = 0
    · simp only [if_pos c0]
      refine congrArg (kEI l (h.1 + 1) a f) ?_
      show (if a = h.1 then (fun _ => 0) else ka_I h a) f = _
      by_cases c : a = h.1
      · rw [if_pos c, if_pos c]
      · rw [if_neg c, if_neg c]
    · by_cases c1 : u.1 = 1
      · simp only [if_neg c0, if_pos c1]; rfl
      · by_cases c2 : u.1 = 2
        · simp only [if_neg c0, if_neg c1, if_pos c2]; rfl
        · simp only [if_neg c0, if_neg c1, if_neg c2]
          refine congrArg (kEI l (h.1 + (u.2.1 + 1)) a f) ?_
          show (if h.1 ≤ a ∧ a ≤ h.1 + u.2.1 then (fun _ => 0) else ka_I h a) f = _
          by_cases c' : h.1 ≤ a ∧ a ≤ h.1 + u.2.1
          · rw [if_pos c', if_pos c']
          · rw [if_neg c', if_neg c']
theorem kEs_e : ∀ (l : List (Nat × Nat × Nat × Nat)) (h : ka_H), (kUl l h).2.1 = kEs l h.2.1
  | [], h => rfl
  | u :: l, h => by
    rw [kUl_c, kEs_e l (ku u h)]
    unfold ku
    rw [kEs]
    by_cases c0 : u.1 = 0
    · simp only [if_pos c0]; rfl
    · by_cases c1 : u.1 = 1
      · simp only [if_neg c0, if_pos c1]; rfl
      · by_cases c2 : u.1 = 2
        · simp only [if_neg c0, if_neg c1, if_pos c2]; rfl
        · simp only [if_neg c0, if_neg c1, if_neg c2]; rfl
theorem ku_hi (u : Nat × Nat × Nat × Nat) (h : ka_H) {a : Nat} (hu : u.2.1 < 1000000) (ha : 1000000 ≤ a) (hn : (ku u h).1 ≤ 1000000) : ka_K (ku u h) a = ka_K h a ∧ ka_I (ku u h) a = ka_I h a ∧ ka_P (ku u h) a = ka_P h a := by
  rw [ku_n] at hn
  unfold ku
  by_cases c0 : u.1 = 0
  · rw [if_pos c0] at hn ⊢
    exact ⟨if_neg (by omega), if_neg (by omega), if_neg (by omega)⟩
  · rw [if_neg c0] at hn ⊢
    by_cases c1 : u.1 = 1
    · rw [if_pos c1]
      refine ⟨rfl, rfl, ?_⟩
      show ka_u (ka_P h) u.2.1 u.2.2.1 u.2.2.2 a = _
      unfold ka_u
      funext j
      rw [if_neg (by omega)]
    · rw [if_neg c1] at hn ⊢
      by_cases c2 : u.1 = 2
      · rw [if_pos c2]
        refine ⟨rfl, ?_, rfl⟩
        show ka_u (ka_I h) u.2.1 u.2.2.1 (-1) a = _
        unfold ka_u
        funext j
        rw [if_neg (by omega)]
      · rw [if_neg c2] at hn ⊢
        refine ⟨?_, ?_, ?_⟩
        · exact (if_neg (by omega)).trans (if_neg (by omega))
        · exact if_neg (by omega)
        · exact (if_neg (by omega)).trans (if_neg (by omega))
theorem kUl_hi : ∀ (l : List (Nat × Nat × Nat × Nat)) (h : ka_H) {a : Nat}, (∀ u ∈ l, u.2.1 < 1000000) → 1000000 ≤ a → h.1 + kCu l ≤ 1000000 → ka_K (kUl l h) a = ka_K h a ∧ ka_I (kUl l h) a = ka_I h a ∧ ka_P (kUl l h) a = ka_P h a
  | [], h, a, _, _, _ => ⟨rfl, rfl, rfl⟩
  | u :: l, h, a, hu, ha, hn => by
    have hn' : h.1 + ((if u.1 = 0 then 1 else if u.1 = 1 then 0 else if u.1 = 2 then 0 else u.2.1 + 1) + kCu l) ≤ 1000000 := hn
    have e := ku_n u h
    obtain ⟨x1, x2, x3⟩ := kUl_hi l (ku u h) (fun v hv => hu v (List.mem_cons_of_mem _ hv)) ha (by rw [e]; omega)
    obtain ⟨y1, y2, y3⟩ := ku_hi u h (hu u List.mem_cons_self) ha (by rw [e]; omega)
    rw [kUl_c]
    exact ⟨x1.trans y1, x2.trans y2, x3.trans y3⟩
def kUz : List (Nat × Nat × Nat × Nat) := (0, 8, 12, 12) :: (kM0 ++ (0, 9, 48, 48) :: (kUm ++ [(0, 32, 1, 1)]))
theorem kHs_e (h : ka_H) : kHs h = kUl kUz h := by
  unfold kUz
  rw [kUl_c, kUl_ap, kUl_c, kUl_ap, kUl_c, ku0, ku0, ku0]
  rfl
theorem kz_lo : ∀ u ∈ kUz, u.2.1 < 1000000 := by decide +kernel
theorem kz_ct : kCu kUz = 102 := by decide +kernel
theorem kz_sl : kEs kUz 0 = 40511 := by decide +kernel
theorem kz_kt : ∀ a, a < 103 → kEK kUz 1 a (99, 0) = kt a := by decide +kernel
theorem kz_pt : ∀ a, a < 103 → ∀ f, f < 60 → Nat.beq (pt a f) 0 = false → kEP kUz 1 a f 0 = pt a f := by decide +kernel
theorem kz_p0 {a f : Nat} (hf : 60 ≤ f) : pt a f = 0 := by
  have h1 : ∀ c, Nat.blt c 60 = true → Nat.ble f c = false := fun c hc => by
    have := kLt hc
    cases h : Nat.ble f c with
    | false => rfl
    | true => exact absurd (Nat.le_of_ble_eq_true h) (by omega)
  have h2 : ∀ c, Nat.blt c 60 = true → Nat.beq f c = false := fun c hc => by
    have := kLt hc
    cases h : Nat.beq f c with
    | false => rfl
    | true => exact absurd (Nat.eq_of_beq_eq_true h) (by omega)
  unfold pt
  simp only [h1 0 rfl, h1 1 rfl, h1 2 rfl, h1 3 rfl, h1 4 rfl, h1 5 rfl, h1 6 rfl, h1 7 rfl, h1 8 rfl, h1 9 rfl, h1 10 rfl, h1 11 rfl, h1 12 rfl, h1 13 rfl, h1 14 rfl, h1 15 rfl, h1 16 rfl, h1 17 rfl, h1 18 rfl, h1 19 rfl, h1 20 rfl, h1 29 rfl, h1 32 rfl, h1 33 rfl, h1 36 rfl, h1 37 rfl, h1 38 rfl, h1 39 rfl, h1 41 rfl, h1 42 rfl, h1 43 rfl, h1 45 rfl, h1 46 rfl, h2 0 rfl, h2 1 rfl, h2 2 rfl, h2 3 rfl, h2 4 rfl, h2 5 rfl, h2 6 rfl, h2 7 rfl, h2 8 rfl, h2 9 rfl, h2 10 rfl, h2 11 rfl, h2 12 rfl, h2 13 rfl, h2 14 rfl, h2 15 rfl, h2 16 rfl, h2 17 rfl, h2 18 rfl, h2 19 rfl, h2 20 rfl, h2 29 rfl, h2 32 rfl, h2 33 rfl, h2 36 rfl, h2 37 rfl, h2 38 rfl, h2 39 rfl, h2 41 rfl, h2 42 rfl, h2 43 rfl, h2 45 rfl, h2 46 rfl, h2 47 rfl, cond_false, Bool.cond_self]
/-- the fixed part, at the start -/
theorem kz_f (L : Nat) (xs : Nat → Int32) : kf (L, xs) (kHs (kp_h0 L xs)) := by
  rw [kHs_e]
  refine ⟨?_, fun a ha => ?_, fun a f ha hp => ?_, fun i => ?_⟩
  · rw [kUl_n, kz_ct]
    show 103 ≤ 1 + 102
    decide
  · have h := kLt ha
    rw [kEK_e, ← kz_kt a h]
    exact congrArg (kEK kUz 1 a) (if_pos (by omega))
  · have h := kLt ha
    have hf : f < 60 := Nat.lt_of_not_le fun c => by
      rw [kz_p0 c] at hp
      cases hp
    rw [kEP_e, ← kz_pt a h f hf hp]
    refine congrArg (kEP kUz 1 a f) ?_
    show (if a < 1000000 then (fun _ => 0) else ka_sRf (a - 1000000)) f = 0
    rw [if_pos (by omega)]
  · obtain ⟨x1, x2, x3⟩ := kUl_hi kUz (kp_h0 L xs) (a := 1000000 + i) kz_lo (by omega) (by rw [kz_ct]; show 1 + 102 ≤ 1000000; decide)
    rw [x1, x2, x3]
    refine ⟨?_, fun j => ⟨?_, ?_⟩⟩
    · show (if 1000000 + i < 1000000 then (99, 0) else kp_sK L (1000000 + i - 1000000)) = kp_sK L i
      rw [if_neg (by omega), Nat.add_sub_cancel_left]
    · show (if 1000000 + i < 1000000 then (fun _ => 0) else kp_sI xs (1000000 + i - 1000000)) j = kp_sI xs i j
      rw [if_neg (by omega), Nat.add_sub_cancel_left]
    · show (if 1000000 + i < 1000000 then (fun _ => 0) else ka_sRf (1000000 + i - 1000000)) j = ka_sRf i j
      rw [if_neg (by omega), Nat.add_sub_cancel_left]
theorem kz_I (L : Nat) (xs : Nat → Int32) {a : Nat} (f : Nat) (ha : a < 1000000) : ka_I (kHs (kp_h0 L xs)) a f = kEI kUz 1 a f 0 := by
  rw [kHs_e, kEI_e]
  refine congrArg (kEI kUz 1 a f) ?_
  show (if a < 1000000 then (fun _ => 0) else kp_sI xs (a - 1000000)) f = 0
  rw [if_pos ha]
theorem kz_P0 (L : Nat) (xs : Nat → Int32) {a : Nat} (f : Nat) (ha : a < 1000000) : ka_P (kHs (kp_h0 L xs)) a f = kEP kUz 1 a f 0 := by
  rw [kHs_e, kEP_e]
  refine congrArg (kEP kUz 1 a f) ?_
  show (if a < 1000000 then (fun _ => 0) else ka_sRf (a - 1000000)) f = 0
  rw [if_pos ha]
/-- the state at the start -/
def kA0 : kA := ((0, 0, 0, fun _ => 0, fun _ => 0, fun _ => 0, fun _ => 0, fun _ => 0, fun _ => 0), (0, fun _ => 0, -1), (0, fun _ => [], fun _ _ => 0, fun _ => false, 0, fun _ => (0, 0, 0, 0, []), fun _ => 0, 0), (0, fun _ => 0, fun _ => false))
theorem kz_W : kWA kA0 := ⟨⟨Nat.zero_le _, Nat.zero_le _, fun _ h => absurd h (Nat.not_lt_zero _), fun _ h => absurd h (Nat.not_lt_zero _)⟩, ⟨Nat.zero_le _, fun _ h => absurd h (Nat.not_lt_zero _)⟩, ⟨Nat.zero_le _, Nat.zero_le _, Nat.zero_le _, fun _ h => absurd h (Nat.not_lt_zero _), fun _ h => absurd h (Nat.not_lt_zero _)⟩, ⟨Nat.zero_le _, fun _ h => absurd h (Nat.not_lt_zero _)⟩⟩
theorem kz_64 : ∀ r, r < 256 → kEI kUz 1 64 r 0 = 0 := by decide +kernel
theorem kz_68 : ∀ r, r < 72 → kEP kUz 1 68 r 0 = 0 := by decide +kernel
theorem kz_69 : ∀ r, r < 6 → kEP kUz 1 69 r 0 = 0 := by decide +kernel
theorem kz_100 : ∀ r, r < 8 → kEI kUz 1 100 r 0 = 0 := by decide +kernel
theorem kz_o : kEI kUz 1 2 6 0 = 0 ∧ kEI kUz 1 2 7 0 = 0 ∧ kEI kUz 1 2 8 0 = 0 ∧ kEI kUz 1 9 1 0 = 0 ∧ kEI kUz 1 9 4 0 = -1 ∧ kEI kUz 1 1 8 0 = 0 ∧ kEI kUz 1 1 9 0 = 0 ∧ kEI kUz 1 1 10 0 = 0 ∧ kEI kUz 1 1 11 0 = 0 := by decide +kernel
theorem kz_m : kEI kUz 1 72 1 0 = 0 ∧ kEI kUz 1 72 2 0 = 0 ∧ kEI kUz 1 72 3 0 = 0 ∧ kEI kUz 1 72 9 0 = 0 ∧ kEI kUz 1 72 21 0 = 0 ∧ kEI kUz 1 72 28 0 = -1 ∧ kEI kUz 1 72 34 0 = 0 ∧ kEI kUz 1 72 35 0 = 0 ∧ kEI kUz 1 72 44 0 = 0 := by decide +kernel
theorem kz_c (L : Nat) (xs : Nat → Int32) : kcA kA0 (kHs (kp_h0 L xs)) := by
  obtain ⟨o1, o2, o3, o4, o5, o6, o7, o8, o9⟩ := kz_o
  have I := fun a (ha : a < 1000000) f => kz_I L xs (a := a) f ha
  have P := fun a (ha : a < 1000000) f => kz_P0 L xs (a := a) f ha
  refine ⟨⟨(I 2 (by decide) 6).trans o1, (I 2 (by decide) 7).trans o2, (I 2 (by decide) 8).trans o3, fun _ h => absurd h (Nat.not_lt_zero _), fun _ h => absurd h (Nat.not_lt_zero _)⟩, ⟨(I 9 (by decide) 1).trans o4, (I 9 (by decide) 4).trans o5, fun _ h => absurd h (Nat.not_lt_zero _)⟩, ⟨(I 1 (by decide) 10).trans o8, fun _ h => absurd h (Nat.not_lt_zero _)⟩, fun _ => 0, fun _ => 0, fun _ => 0, ?_⟩
  refine ⟨⟨(I 1 (by decide) 8).trans o6, (I 1 (by decide) 9).trans o7, (I 1 (by decide) 11).trans o9⟩, fun r hr => (I 64 (by decide) r).trans (kz_64 r hr), ⟨fun _ h => absurd h (Nat.not_lt_zero _), fun _ _ _ h => absurd h (Nat.not_lt_zero _)⟩, fun s hs => ?_, fun _ h => absurd h (Nat.not_lt_zero _), fun q hq => ?_, fun _ h => absurd h (Nat.not_lt_zero _), fun _ _ _ h => absurd h (Nat.not_lt_zero _)⟩
  · exact ((P 68 (by decide) s).trans (kz_68 s hs)).trans (if_neg (Nat.not_lt_zero s)).symm
  · exact ((P 69 (by decide) q).trans (kz_69 q hq)).trans (if_neg (Nat.not_lt_zero q)).symm
theorem kz_M (L : Nat) (xs : Nat → Int32) : kmA kA0 (kHs (kp_h0 L xs)) := by
  obtain ⟨o1, o2, o3, o4, o5, o6, o7, o8, o9⟩ := kz_m
  have I := fun a (ha : a < 1000000) f => kz_I L xs (a := a) f ha
  refine ⟨⟨(I 72 (by decide) 2).trans o2, (I 72 (by decide) 1).trans o1, (I 72 (by decide) 3).trans o3, fun _ h => absurd h (Nat.not_lt_zero _)⟩, ⟨(I 72 (by decide) 21).trans o5, (I 72 (by decide) 28).trans o6, fun _ h => absurd h (Nat.not_lt_zero _)⟩, ⟨(I 72 (by decide) 9).trans o4, (I 72 (by decide) 34).trans o7, (I 72 (by decide) 35).trans o8, fun _ h => absurd h (Nat.not_lt_zero _), fun _ h => absurd h (Nat.not_lt_zero _)⟩, ⟨(I 72 (by decide) 44).trans o9, fun _ h => absurd h (Nat.not_lt_zero _), fun k _ hk => (I 100 (by decide) k).trans (kz_100 k hk)⟩⟩
/-- THE LAW -/
theorem kz_law : kp_law := by
  intro L xs hL
  have hn : (kHs (kp_h0 L xs)).1 ≤ 103 + 8 * 0 := by
    rw [kHs_e, kUl_n, kz_ct]
    exact Nat.le_refl _
  have hs : (kHs (kp_h0 L xs)).2.1 ≤ 1000000 + 1125 * 0 := by
    rw [kHs_e, kEs_e]
    exact Nat.le_trans (Nat.le_of_eq kz_sl) (by decide)
  have T : kp_T 202 0 [.ref 1000092] (kp_h0 L xs) kLR := kl_start rfl (kl_head (g := (L, xs)) hL 512 0 kA0 (kHs (kp_h0 L xs)) (.retAddr 0) (.retAddr 0) (show L ≤ 0 + 8 * 512 by omega) (Nat.zero_le _) (kz_f L xs) kz_W (kz_c L xs) (kz_M L xs) hn hs (kz_f L xs))
  obtain ⟨r, hE, hr, rfl, h1, h2⟩ := T
  exact ⟨201, hE, by decide, hr, h1, h2⟩

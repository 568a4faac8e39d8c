/-! ===== the start: what the constructors make (made by a program out of a trace) ===== -/
/-- one thing done to the heap: a cell made, a reference written, -1 written, an array of arrays made -/
def ku (u : Nat × Nat × Nat × Nat) (h : ka_H) : ka_H := if u.1 = 0 then ka_new h u.2.1 u.2.2.1 u.2.2.2 else if u.1 = 1 then ka_sP h u.2.1 u.2.2.1 u.2.2.2 else if u.1 = 2 then ka_sI h u.2.1 u.2.2.1 (-1) else ka_mul h u.2.1 u.2.2.1
def kUl : List (Nat × Nat × Nat × Nat) → ka_H → ka_H
  | [], h => h
  | u :: l, h => kUl l (ku u h)
theorem kLt {a b : Nat} (h : Nat.blt a b = true) : a < b := Nat.le_of_ble_eq_true h
theorem kNe0 {a : Nat} (h : Nat.beq a 0 = false) : ¬ a = 0 := fun z => by
  subst z
  cases h
theorem kp_cn0 {d m : Nat} {as : List Value} {h h1 : ka_H} {P : Option Value → ka_H → Prop} (hT : kp_T d m as h (kp_vo h1)) (hk : P none h1) : ∃ (v : Option Value) (h' : ka_H), ka_run d m as h (.inl v) h' ∧ P v h' := by
  obtain ⟨r, h', hr, rfl, rfl⟩ := hT
  exact ⟨none, _, hr, hk⟩
theorem ki_36 {d b n : Nat} {h : ka_H} (hn : h.1 = n) (hb : b < n) (hK : ka_K h b = (3, 8)) (hc : n < 1000000) (hb0 : 0 < b) : kp_T (d + 1) 36 [.ref b] h (kp_vo (kUl [(1, b, 0, 1000000), (0, 30, 16, 16), (1, b, 7, n)] h)) := by
  obtain ⟨n', sl, K, I, P, J⟩ := h
  have hn' : n' = n := hn
  subst hn'
  refine kp_in rfl (Nat.le_of_ble_eq_true rfl) rfl (kp_seg kp_no 20 ?_)
  refine And.intro (show ¬ b = 0 by omega) ?_
  refine And.intro (congrArg Prod.fst hK) ?_
  refine And.intro ⟨by decide, by decide, hc⟩ ?_
  refine And.intro (show (if b = n' then ((30, 16) : Nat × Nat) else K b).1 = 3 by rw [if_neg (by omega)]; exact congrArg Prod.fst hK) ?_
  exact ⟨rfl, rfl⟩
theorem ku_n (u : Nat × Nat × Nat × Nat) (h : ka_H) : (ku u h).1 = h.1 + (if u.1 = 0 then 1 else if u.1 = 1 then 0 else if u.1 = 2 then 0 else u.2.1 + 1) := by
  unfold ku
  by_cases c0 : u.1 = 0
  · rw [if_pos c0, if_pos c0]; rfl
  · rw [if_neg c0, if_neg c0]
    by_cases c1 : u.1 = 1
    · rw [if_pos c1, if_pos c1]; rfl
    · rw [if_neg c1, if_neg c1]
      by_cases c2 : u.1 = 2
      · rw [if_pos c2, if_pos c2]; rfl
      · rw [if_neg c2, if_neg c2]; rfl
theorem ku_K (u : Nat × Nat × Nat × Nat) (h : ka_H) {a : Nat} (ha : a < h.1) : ka_K (ku u h) a = ka_K h a := by
  unfold ku
  by_cases c0 : u.1 = 0
  · rw [if_pos c0]; exact if_neg (by omega)
  · rw [if_neg c0]
    by_cases c1 : u.1 = 1
    · rw [if_pos c1]; rfl
    · rw [if_neg c1]
      by_cases c2 : u.1 = 2
      · rw [if_pos c2]; rfl
      · rw [if_neg c2]
        show (if a = h.1 then _ else if h.1 < a ∧ a ≤ h.1 + u.2.1 then _ else ka_K h a) = _
        rw [if_neg (by omega), if_neg (by omega)]
def kCu : List (Nat × Nat × Nat × Nat) → Nat
  | [] => 0
  | u :: l => (if u.1 = 0 then 1 else if u.1 = 1 then 0 else if u.1 = 2 then 0 else u.2.1 + 1) + kCu l
theorem kUl_n : ∀ (l : List (Nat × Nat × Nat × Nat)) (h : ka_H), (kUl l h).1 = h.1 + kCu l
  | [], h => rfl
  | u :: l, h => by
    show (kUl l (ku u h)).1 = h.1 + (_ + kCu l)
    rw [kUl_n l, ku_n, Nat.add_assoc]
theorem kUl_K : ∀ (l : List (Nat × Nat × Nat × Nat)) (h : ka_H) {a : Nat}, a < h.1 → ka_K (kUl l h) a = ka_K h a
  | [], h, a, _ => rfl
  | u :: l, h, a, ha => by
    show ka_K (kUl l (ku u h)) a = _
    rw [kUl_K l (ku u h) (by rw [ku_n]; omega), ku_K u h ha]
theorem ku_P (u : Nat × Nat × Nat × Nat) (h : ka_H) {a f : Nat} (ha : a < h.1) (hu : u.1 = 1 → ¬ u.2.1 = a) : ka_P (ku u h) a f = ka_P h a f := by
  unfold ku
  by_cases c0 : u.1 = 0
  · rw [if_pos c0]
    show (if a = h.1 then (fun _ => 0) else ka_P h a) f = _
    rw [if_neg (by omega)]
  · rw [if_neg c0]
    by_cases c1 : u.1 = 1
    · rw [if_pos c1]
      have := hu c1
      show ka_u (ka_P h) u.2.1 u.2.2.1 u.2.2.2 a f = _
      unfold ka_u
      rw [if_neg (by omega)]
    · rw [if_neg c1]
      by_cases c2 : u.1 = 2
      · rw [if_pos c2]; rfl
      · rw [if_neg c2]
        show (if a = h.1 then (fun j => h.1 + 1 + j) else if h.1 < a ∧ a ≤ h.1 + u.2.1 then (fun _ => 0) else ka_P h a) f = _
        rw [if_neg (by omega), if_neg (by omega)]
theorem kUl_P : ∀ (l : List (Nat × Nat × Nat × Nat)) (h : ka_H) {a f : Nat}, a < h.1 → (∀ u ∈ l, u.1 = 1 → ¬ u.2.1 = a) → ka_P (kUl l h) a f = ka_P h a f
  | [], h, a, f, _, _ => rfl
  | u :: l, h, a, f, ha, hu => by
    show ka_P (kUl l (ku u h)) a f = _
    rw [kUl_P l (ku u h) (by rw [ku_n]; omega) (fun v hv => hu v (List.mem_cons_of_mem _ hv)), ku_P u h ha (hu u List.mem_cons_self)]
theorem kUl_ap : ∀ (l l' : List (Nat × Nat × Nat × Nat)) (h : ka_H), kUl (l ++ l') h = kUl l' (kUl l h)
  | [], l', h => rfl
  | u :: l, l', h => kUl_ap l l' (ku u h)
theorem ki_25 {d : Nat} {h : ka_H} (hn : h.1 = 3) (hK : ka_K h 2 = (2, 9)) : kp_T (d + 1) 25 [.ref 2] h (kp_vo (kUl [(0, 30, 400, 400), (1, 2, 0, 3), (0, 30, 400, 400), (1, 2, 1, 4), (0, 30, 400, 400), (1, 2, 2, 5), (0, 30, 400, 400), (1, 2, 3, 6), (0, 30, 400, 400), (1, 2, 4, 7), (0, 30, 100, 100), (1, 2, 5, 8)] h)) := by
  obtain ⟨n, sl, K, I, P, J⟩ := h
  have hn' : n = 3 := hn
  subst hn'
  refine kp_in rfl (Nat.le_of_ble_eq_true rfl) rfl (kp_seg kp_no 32 ?_)
  refine And.intro (show ¬ _ = 0 from kNe0 rfl) ?_
  refine And.intro ⟨by decide, by decide, kLt rfl⟩ ?_
  refine And.intro (congrArg Prod.fst hK) ?_
  refine And.intro ⟨by decide, by decide, kLt rfl⟩ ?_
  refine And.intro (congrArg Prod.fst hK) ?_
  refine And.intro ⟨by decide, by decide, kLt rfl⟩ ?_
  refine And.intro (congrArg Prod.fst hK) ?_
  refine And.intro ⟨by decide, by decide, kLt rfl⟩ ?_
  refine And.intro (congrArg Prod.fst hK) ?_
  refine And.intro ⟨by decide, by decide, kLt rfl⟩ ?_
  refine And.intro (congrArg Prod.fst hK) ?_
  refine And.intro ⟨by decide, by decide, kLt rfl⟩ ?_
  refine And.intro (congrArg Prod.fst hK) ?_
  exact ⟨rfl, rfl⟩
theorem ki_46 {d : Nat} {h : ka_H} (hn : h.1 = 10) (hK : ka_K h 9 = (6, 6)) : kp_T (d + 1) 46 [.ref 9] h (kp_vo (kUl [(0, 30, 200, 200), (1, 9, 0, 10), (2, 9, 4, 0)] h)) := by
  obtain ⟨n, sl, K, I, P, J⟩ := h
  have hn' : n = 10 := hn
  subst hn'
  refine kp_in rfl (Nat.le_of_ble_eq_true rfl) rfl (kp_seg kp_no 15 ?_)
  refine And.intro (show ¬ _ = 0 from kNe0 rfl) ?_
  refine And.intro ⟨by decide, by decide, kLt rfl⟩ ?_
  refine And.intro (congrArg Prod.fst hK) ?_
  refine And.intro (congrArg Prod.fst hK) ?_
  exact ⟨rfl, rfl⟩
theorem ki_1 {d : Nat} {h : ka_H} (hn : h.1 = 14) (hK : ka_K h 13 = (0, 7)) : kp_T (d + 1) 1 [.ref 13, .ref 9] h (kp_vo (kUl [(3, 7, 16, 0), (1, 13, 1, 14), (3, 7, 16, 0), (1, 13, 2, 22), (3, 7, 16, 0), (1, 13, 3, 30), (0, 30, 200, 200), (1, 13, 4, 38), (1, 13, 0, 9)] h)) := by
  obtain ⟨n, sl, K, I, P, J⟩ := h
  have hn' : n = 14 := hn
  subst hn'
  refine kp_in rfl (Nat.le_of_ble_eq_true rfl) rfl (kp_seg kp_no 30 ?_)
  refine And.intro (show ¬ _ = 0 from kNe0 rfl) ?_
  refine And.intro ⟨⟨by decide, by decide⟩, ⟨by decide, by decide⟩, kLt rfl⟩ ?_
  refine And.intro (congrArg Prod.fst hK) ?_
  refine And.intro ⟨⟨by decide, by decide⟩, ⟨by decide, by decide⟩, kLt rfl⟩ ?_
  refine And.intro (congrArg Prod.fst hK) ?_
  refine And.intro ⟨⟨by decide, by decide⟩, ⟨by decide, by decide⟩, kLt rfl⟩ ?_
  refine And.intro (congrArg Prod.fst hK) ?_
  refine And.intro ⟨by decide, by decide, kLt rfl⟩ ?_
  refine And.intro (congrArg Prod.fst hK) ?_
  refine And.intro (congrArg Prod.fst hK) ?_
  exact ⟨rfl, rfl⟩
theorem ki_58 {d : Nat} {h : ka_H} (hn : h.1 = 64) (hK : ka_K h 63 = (7, 4)) : kp_T (d + 1) 58 [.ref 63] h (kp_vo (kUl [(0, 30, 256, 256), (1, 63, 0, 64), (0, 30, 16, 16), (1, 63, 1, 65), (0, 30, 16, 16), (1, 63, 2, 66), (0, 30, 16, 16), (1, 63, 3, 67)] h)) := by
  obtain ⟨n, sl, K, I, P, J⟩ := h
  have hn' : n = 64 := hn
  subst hn'
  refine kp_in rfl (Nat.le_of_ble_eq_true rfl) rfl (kp_seg kp_no 24 ?_)
  refine And.intro (show ¬ _ = 0 from kNe0 rfl) ?_
  refine And.intro ⟨by decide, by decide, kLt rfl⟩ ?_
  refine And.intro (congrArg Prod.fst hK) ?_
  refine And.intro ⟨by decide, by decide, kLt rfl⟩ ?_
  refine And.intro (congrArg Prod.fst hK) ?_
  refine And.intro ⟨by decide, by decide, kLt rfl⟩ ?_
  refine And.intro (congrArg Prod.fst hK) ?_
  refine And.intro ⟨by decide, by decide, kLt rfl⟩ ?_
  refine And.intro (congrArg Prod.fst hK) ?_
  exact ⟨rfl, rfl⟩
def kUm : List (Nat × Nat × Nat × Nat) := [(0, 30, 400, 400), (1, 72, 4, 73), (0, 30, 400, 400), (1, 72, 5, 74), (0, 30, 400, 400), (1, 72, 6, 75), (0, 30, 400, 400), (1, 72, 7, 76), (0, 31, 400, 400), (1, 72, 8, 77), (0, 31, 6, 6), (1, 72, 10, 78), (0, 30, 6, 6), (1, 72, 11, 79), (0, 30, 72, 72), (1, 72, 12, 80), (0, 30, 72, 72), (1, 72, 13, 81), (0, 30, 72, 72), (1, 72, 14, 82), (0, 30, 72, 72), (1, 72, 15, 83), (0, 30, 72, 72), (1, 72, 16, 84), (0, 30, 14400, 14400), (1, 72, 17, 85), (0, 30, 72, 72), (1, 72, 18, 86), (0, 30, 14400, 14400), (1, 72, 19, 87), (0, 30, 72, 72), (1, 72, 20, 88), (2, 72, 28, 0), (0, 30, 200, 200), (1, 72, 29, 89), (0, 30, 200, 200), (1, 72, 32, 90), (0, 30, 200, 200), (1, 72, 33, 91), (0, 30, 72, 72), (1, 72, 36, 92), (0, 30, 72, 72), (1, 72, 37, 93), (0, 31, 72, 72), (1, 72, 38, 94), (0, 31, 1024, 1024), (1, 72, 39, 95), (2, 72, 40, 0), (0, 30, 3072, 3072), (1, 72, 41, 96), (0, 30, 100, 100), (1, 72, 42, 97), (0, 30, 256, 256), (1, 72, 43, 98), (0, 30, 8, 8), (1, 72, 45, 99), (0, 31, 8, 8), (1, 72, 46, 100), (0, 30, 16, 16), (1, 72, 47, 101)]
theorem ki_148 {d : Nat} {h0 : ka_H} (hn0 : h0.1 = 73) (hK0 : ka_K h0 72 = (9, 48)) : kp_T (d + 1) 148 [.ref 72] h0 (kp_vo (kUl kUm h0)) := by
  generalize hR : kp_vo (kUl kUm h0) = R
  have s32 : ∀ h : ka_H, R (.inl none) h → kp_ex d 148 R 259 [.ref 72] [] h := fun h e => kp_seg kp_no 3 e
  have s31 : ∀ h : ka_H, h.1 = 101 → ka_K h 72 = (9, 48) → R (.inl none) (kUl [(0, 30, 16, 16), (1, 72, 47, 101)] h) → kp_ex d 148 R 251 [.ref 72] [] h := by
    intro h hn hK e
    obtain ⟨n, sl, K, I, P, J⟩ := h
    have hn' : n = 101 := hn
    subst hn'
    refine kp_seg (fun p => Nat.beq p 259) 8 ?_
    refine And.intro ⟨by decide, by decide, kLt rfl⟩ ?_
    refine And.intro (congrArg Prod.fst hK) ?_
    exact s32 _ e
  have s30 : ∀ h : ka_H, h.1 = 100 → ka_K h 72 = (9, 48) → R (.inl none) (kUl [(0, 31, 8, 8), (1, 72, 46, 100), (0, 30, 16, 16), (1, 72, 47, 101)] h) → kp_ex d 148 R 243 [.ref 72] [] h := by
    intro h hn hK e
    obtain ⟨n, sl, K, I, P, J⟩ := h
    have hn' : n = 100 := hn
    subst hn'
    refine kp_seg (fun p => Nat.beq p 251) 8 ?_
    refine And.intro ⟨by decide, by decide, kLt rfl⟩ ?_
    refine And.intro (congrArg Prod.fst hK) ?_
    exact s31 _ rfl hK e
  have s29 : ∀ h : ka_H, h.1 = 99 → ka_K h 72 = (9, 48) → R (.inl none) (kUl [(0, 30, 8, 8), (1, 72, 45, 99), (0, 31, 8, 8), (1, 72, 46, 100), (0, 30, 16, 16), (1, 72, 47, 101)] h) → kp_ex d 148 R 235 [.ref 72] [] h := by
    intro h hn hK e
    obtain ⟨n, sl, K, I, P, J⟩ := h
    have hn' : n = 99 := hn
    subst hn'
    refine kp_seg (fun p => Nat.beq p 243) 8 ?_
    refine And.intro ⟨by decide, by decide, kLt rfl⟩ ?_
    refine And.intro (congrArg Prod.fst hK) ?_
    exact s30 _ rfl hK e
  have s28 : ∀ h : ka_H, h.1 = 98 → ka_K h 72 = (9, 48) → R (.inl none) (kUl [(0, 30, 256, 256), (1, 72, 43, 98), (0, 30, 8, 8), (1, 72, 45, 99), (0, 31, 8, 8), (1, 72, 46, 100), (0, 30, 16, 16), (1, 72, 47, 101)] h) → kp_ex d 148 R 226 [.ref 72] [] h := by
    intro h hn hK e
    obtain ⟨n, sl, K, I, P, J⟩ := h
    have hn' : n = 98 := hn
    subst hn'
    refine kp_seg (fun p => Nat.beq p 235) 8 ?_
    refine And.intro ⟨by decide, by decide, kLt rfl⟩ ?_
    refine And.intro (congrArg Prod.fst hK) ?_
    exact s29 _ rfl hK e
  have s27 : ∀ h : ka_H, h.1 = 97 → ka_K h 72 = (9, 48) → R (.inl none) (kUl [(0, 30, 100, 100), (1, 72, 42, 97), (0, 30, 256, 256), (1, 72, 43, 98), (0, 30, 8, 8), (1, 72, 45, 99), (0, 31, 8, 8), (1, 72, 46, 100), (0, 30, 16, 16), (1, 72, 47, 101)] h) → kp_ex d 148 R 218 [.ref 72] [] h := by
    intro h hn hK e
    obtain ⟨n, sl, K, I, P, J⟩ := h
    have hn' : n = 97 := hn
    subst hn'
    refine kp_seg (fun p => Nat.beq p 226) 8 ?_
    refine And.intro ⟨by decide, by decide, kLt rfl⟩ ?_
    refine And.intro (congrArg Prod.fst hK) ?_
    exact s28 _ rfl hK e
  have s26 : ∀ h : ka_H, h.1 = 96 → ka_K h 72 = (9, 48) → R (.inl none) (kUl [(0, 30, 3072, 3072), (1, 72, 41, 96), (0, 30, 100, 100), (1, 72, 42, 97), (0, 30, 256, 256), (1, 72, 43, 98), (0, 30, 8, 8), (1, 72, 45, 99), (0, 31, 8, 8), (1, 72, 46, 100), (0, 30, 16, 16), (1, 72, 47, 101)] h) → kp_ex d 148 R 209 [.ref 72] [] h := by
    intro h hn hK e
    obtain ⟨n, sl, K, I, P, J⟩ := h
    have hn' : n = 96 := hn
    subst hn'
    refine kp_seg (fun p => Nat.beq p 218) 8 ?_
    refine And.intro ⟨by decide, by decide, kLt rfl⟩ ?_
    refine And.intro (congrArg Prod.fst hK) ?_
    exact s27 _ rfl hK e
  have s25 : ∀ h : ka_H, h.1 = 96 → ka_K h 72 = (9, 48) → R (.inl none) (kUl [(2, 72, 40, 0), (0, 30, 3072, 3072), (1, 72, 41, 96), (0, 30, 100, 100), (1, 72, 42, 97), (0, 30, 256, 256), (1, 72, 43, 98), (0, 30, 8, 8), (1, 72, 45, 99), (0, 31, 8, 8), (1, 72, 46, 100), (0, 30, 16, 16), (1, 72, 47, 101)] h) → kp_ex d 148 R 204 [.ref 72] [] h := by
    intro h hn hK e
    obtain ⟨n, sl, K, I, P, J⟩ := h
    have hn' : n = 96 := hn
    subst hn'
    refine kp_seg (fun p => Nat.beq p 209) 8 ?_
    refine And.intro (congrArg Prod.fst hK) ?_
    exact s26 _ rfl hK e
  have s24 : ∀ h : ka_H, h.1 = 95 → ka_K h 72 = (9, 48) → R (.inl none) (kUl [(0, 31, 1024, 1024), (1, 72, 39, 95), (2, 72, 40, 0), (0, 30, 3072, 3072), (1, 72, 41, 96), (0, 30, 100, 100), (1, 72, 42, 97), (0, 30, 256, 256), (1, 72, 43, 98), (0, 30, 8, 8), (1, 72, 45, 99), (0, 31, 8, 8), (1, 72, 46, 100), (0, 30, 16, 16), (1, 72, 47, 101)] h) → kp_ex d 148 R 195 [.ref 72] [] h := by
    intro h hn hK e
    obtain ⟨n, sl, K, I, P, J⟩ := h
    have hn' : n = 95 := hn
    subst hn'
    refine kp_seg (fun p => Nat.beq p 204) 8 ?_
    refine And.intro ⟨by decide, by decide, kLt rfl⟩ ?_
    refine And.intro (congrArg Prod.fst hK) ?_
    exact s25 _ rfl hK e
  have s23 : ∀ h : ka_H, h.1 = 94 → ka_K h 72 = (9, 48) → R (.inl none) (kUl [(0, 31, 72, 72), (1, 72, 38, 94), (0, 31, 1024, 1024), (1, 72, 39, 95), (2, 72, 40, 0), (0, 30, 3072, 3072), (1, 72, 41, 96), (0, 30, 100, 100), (1, 72, 42, 97), (0, 30, 256, 256), (1, 72, 43, 98), (0, 30, 8, 8), (1, 72, 45, 99), (0, 31, 8, 8), (1, 72, 46, 100), (0, 30, 16, 16), (1, 72, 47, 101)] h) → kp_ex d 148 R 187 [.ref 72] [] h := by
    intro h hn hK e
    obtain ⟨n, sl, K, I, P, J⟩ := h
    have hn' : n = 94 := hn
    subst hn'
    refine kp_seg (fun p => Nat.beq p 195) 8 ?_
    refine And.intro ⟨by decide, by decide, kLt rfl⟩ ?_
    refine And.intro (congrArg Prod.fst hK) ?_
    exact s24 _ rfl hK e
  have s22 : ∀ h : ka_H, h.1 = 93 → ka_K h 72 = (9, 48) → R (.inl none) (kUl [(0, 30, 72, 72), (1, 72, 37, 93), (0, 31, 72, 72), (1, 72, 38, 94), (0, 31, 1024, 1024), (1, 72, 39, 95), (2, 72, 40, 0), (0, 30, 3072, 3072), (1, 72, 41, 96), (0, 30, 100, 100), (1, 72, 42, 97), (0, 30, 256, 256), (1, 72, 43, 98), (0, 30, 8, 8), (1, 72, 45, 99), (0, 31, 8, 8), (1, 72, 46, 100), (0, 30, 16, 16), (1, 72, 47, 101)] h) → kp_ex d 148 R 179 [.ref 72] [] h := by
    intro h hn hK e
    obtain ⟨n, sl, K, I, P, J⟩ := h
    have hn' : n = 93 := hn
    subst hn'
    refine kp_seg (fun p => Nat.beq p 187) 8 ?_
    refine And.intro ⟨by decide, by decide, kLt rfl⟩ ?_
    refine And.intro (congrArg Prod.fst hK) ?_
    exact s23 _ rfl hK e
  have s21 : ∀ h : ka_H, h.1 = 92 → ka_K h 72 = (9, 48) → R (.inl none) (kUl [(0, 30, 72, 72), (1, 72, 36, 92), (0, 30, 72, 72), (1, 72, 37, 93), (0, 31, 72, 72), (1, 72, 38, 94), (0, 31, 1024, 1024), (1, 72, 39, 95), (2, 72, 40, 0), (0, 30, 3072, 3072), (1, 72, 41, 96), (0, 30, 100, 100), (1, 72, 42, 97), (0, 30, 256, 256), (1, 72, 43, 98), (0, 30, 8, 8), (1, 72, 45, 99), (0, 31, 8, 8), (1, 72, 46, 100), (0, 30, 16, 16), (1, 72, 47, 101)] h) → kp_ex d 148 R 171 [.ref 72] [] h := by
    intro h hn hK e
    obtain ⟨n, sl, K, I, P, J⟩ := h
    have hn' : n = 92 := hn
    subst hn'
    refine kp_seg (fun p => Nat.beq p 179) 8 ?_
    refine And.intro ⟨by decide, by decide, kLt rfl⟩ ?_
    refine And.intro (congrArg Prod.fst hK) ?_
    exact s22 _ rfl hK e
  have s20 : ∀ h : ka_H, h.1 = 91 → ka_K h 72 = (9, 48) → R (.inl none) (kUl [(0, 30, 200, 200), (1, 72, 33, 91), (0, 30, 72, 72), (1, 72, 36, 92), (0, 30, 72, 72), (1, 72, 37, 93), (0, 31, 72, 72), (1, 72, 38, 94), (0, 31, 1024, 1024), (1, 72, 39, 95), (2, 72, 40, 0), (0, 30, 3072, 3072), (1, 72, 41, 96), (0, 30, 100, 100), (1, 72, 42, 97), (0, 30, 256, 256), (1, 72, 43, 98), (0, 30, 8, 8), (1, 72, 45, 99), (0, 31, 8, 8), (1, 72, 46, 100), (0, 30, 16, 16), (1, 72, 47, 101)] h) → kp_ex d 148 R 162 [.ref 72] [] h := by
    intro h hn hK e
    obtain ⟨n, sl, K, I, P, J⟩ := h
    have hn' : n = 91 := hn
    subst hn'
    refine kp_seg (fun p => Nat.beq p 171) 8 ?_
    refine And.intro ⟨by decide, by decide, kLt rfl⟩ ?_
    refine And.intro (congrArg Prod.fst hK) ?_
    exact s21 _ rfl hK e
  have s19 : ∀ h : ka_H, h.1 = 90 → ka_K h 72 = (9, 48) → R (.inl none) (kUl [(0, 30, 200, 200), (1, 72, 32, 90), (0, 30, 200, 200), (1, 72, 33, 91), (0, 30, 72, 72), (1, 72, 36, 92), (0, 30, 72, 72), (1, 72, 37, 93), (0, 31, 72, 72), (1, 72, 38, 94), (0, 31, 1024, 1024), (1, 72, 39, 95), (2, 72, 40, 0), (0, 30, 3072, 3072), (1, 72, 41, 96), (0, 30, 100, 100), (1, 72, 42, 97), (0, 30, 256, 256), (1, 72, 43, 98), (0, 30, 8, 8), (1, 72, 45, 99), (0, 31, 8, 8), (1, 72, 46, 100), (0, 30, 16, 16), (1, 72, 47, 101)] h) → kp_ex d 148 R 153 [.ref 72] [] h := by
    intro h hn hK e
    obtain ⟨n, sl, K, I, P, J⟩ := h
    have hn' : n = 90 := hn
    subst hn'
    refine kp_seg (fun p => Nat.beq p 162) 8 ?_
    refine And.intro ⟨by decide, by decide, kLt rfl⟩ ?_
    refine And.intro (congrArg Prod.fst hK) ?_
    exact s20 _ rfl hK e
  have s18 : ∀ h : ka_H, h.1 = 89 → ka_K h 72 = (9, 48) → R (.inl none) (kUl [(0, 30, 200, 200), (1, 72, 29, 89), (0, 30, 200, 200), (1, 72, 32, 90), (0, 30, 200, 200), (1, 72, 33, 91), (0, 30, 72, 72), (1, 72, 36, 92), (0, 30, 72, 72), (1, 72, 37, 93), (0, 31, 72, 72), (1, 72, 38, 94), (0, 31, 1024, 1024), (1, 72, 39, 95), (2, 72, 40, 0), (0, 30, 3072, 3072), (1, 72, 41, 96), (0, 30, 100, 100), (1, 72, 42, 97), (0, 30, 256, 256), (1, 72, 43, 98), (0, 30, 8, 8), (1, 72, 45, 99), (0, 31, 8, 8), (1, 72, 46, 100), (0, 30, 16, 16), (1, 72, 47, 101)] h) → kp_ex d 148 R 144 [.ref 72] [] h := by
    intro h hn hK e
    obtain ⟨n, sl, K, I, P, J⟩ := h
    have hn' : n = 89 := hn
    subst hn'
    refine kp_seg (fun p => Nat.beq p 153) 8 ?_
    refine And.intro ⟨by decide, by decide, kLt rfl⟩ ?_
    refine And.intro (congrArg Prod.fst hK) ?_
    exact s19 _ rfl hK e
  have s17 : ∀ h : ka_H, h.1 = 89 → ka_K h 72 = (9, 48) → R (.inl none) (kUl [(2, 72, 28, 0), (0, 30, 200, 200), (1, 72, 29, 89), (0, 30, 200, 200), (1, 72, 32, 90), (0, 30, 200, 200), (1, 72, 33, 91), (0, 30, 72, 72), (1, 72, 36, 92), (0, 30, 72, 72), (1, 72, 37, 93), (0, 31, 72, 72), (1, 72, 38, 94), (0, 31, 1024, 1024), (1, 72, 39, 95), (2, 72, 40, 0), (0, 30, 3072, 3072), (1, 72, 41, 96), (0, 30, 100, 100), (1, 72, 42, 97), (0, 30, 256, 256), (1, 72, 43, 98), (0, 30, 8, 8), (1, 72, 45, 99), (0, 31, 8, 8), (1, 72, 46, 100), (0, 30, 16, 16), (1, 72, 47, 101)] h) → kp_ex d 148 R 139 [.ref 72] [] h := by
    intro h hn hK e
    obtain ⟨n, sl, K, I, P, J⟩ := h
    have hn' : n = 89 := hn
    subst hn'
    refine kp_seg (fun p => Nat.beq p 144) 8 ?_
    refine And.intro (congrArg Prod.fst hK) ?_
    exact s18 _ rfl hK e
  have s16 : ∀ h : ka_H, h.1 = 88 → ka_K h 72 = (9, 48) → R (.inl none) (kUl [(0, 30, 72, 72), (1, 72, 20, 88), (2, 72, 28, 0), (0, 30, 200, 200), (1, 72, 29, 89), (0, 30, 200, 200), (1, 72, 32, 90), (0, 30, 200, 200), (1, 72, 33, 91), (0, 30, 72, 72), (1, 72, 36, 92), (0, 30, 72, 72), (1, 72, 37, 93), (0, 31, 72, 72), (1, 72, 38, 94), (0, 31, 1024, 1024), (1, 72, 39, 95), (2, 72, 40, 0), (0, 30, 3072, 3072), (1, 72, 41, 96), (0, 30, 100, 100), (1, 72, 42, 97), (0, 30, 256, 256), (1, 72, 43, 98), (0, 30, 8, 8), (1, 72, 45, 99), (0, 31, 8, 8), (1, 72, 46, 100), (0, 30, 16, 16), (1, 72, 47, 101)] h) → kp_ex d 148 R 131 [.ref 72] [] h := by
    intro h hn hK e
    obtain ⟨n, sl, K, I, P, J⟩ := h
    have hn' : n = 88 := hn
    subst hn'
    refine kp_seg (fun p => Nat.beq p 139) 8 ?_
    refine And.intro ⟨by decide, by decide, kLt rfl⟩ ?_
    refine And.intro (congrArg Prod.fst hK) ?_
    exact s17 _ rfl hK e
  have s15 : ∀ h : ka_H, h.1 = 87 → ka_K h 72 = (9, 48) → R (.inl none) (kUl [(0, 30, 14400, 14400), (1, 72, 19, 87), (0, 30, 72, 72), (1, 72, 20, 88), (2, 72, 28, 0), (0, 30, 200, 200), (1, 72, 29, 89), (0, 30, 200, 200), (1, 72, 32, 90), (0, 30, 200, 200), (1, 72, 33, 91), (0, 30, 72, 72), (1, 72, 36, 92), (0, 30, 72, 72), (1, 72, 37, 93), (0, 31, 72, 72), (1, 72, 38, 94), (0, 31, 1024, 1024), (1, 72, 39, 95), (2, 72, 40, 0), (0, 30, 3072, 3072), (1, 72, 41, 96), (0, 30, 100, 100), (1, 72, 42, 97), (0, 30, 256, 256), (1, 72, 43, 98), (0, 30, 8, 8), (1, 72, 45, 99), (0, 31, 8, 8), (1, 72, 46, 100), (0, 30, 16, 16), (1, 72, 47, 101)] h) → kp_ex d 148 R 122 [.ref 72] [] h := by
    intro h hn hK e
    obtain ⟨n, sl, K, I, P, J⟩ := h
    have hn' : n = 87 := hn
    subst hn'
    refine kp_seg (fun p => Nat.beq p 131) 8 ?_
    refine And.intro ⟨by decide, by decide, kLt rfl⟩ ?_
    refine And.intro (congrArg Prod.fst hK) ?_
    exact s16 _ rfl hK e
  have s14 : ∀ h : ka_H, h.1 = 86 → ka_K h 72 = (9, 48) → R (.inl none) (kUl [(0, 30, 72, 72), (1, 72, 18, 86), (0, 30, 14400, 14400), (1, 72, 19, 87), (0, 30, 72, 72), (1, 72, 20, 88), (2, 72, 28, 0), (0, 30, 200, 200), (1, 72, 29, 89), (0, 30, 200, 200), (1, 72, 32, 90), (0, 30, 200, 200), (1, 72, 33, 91), (0, 30, 72, 72), (1, 72, 36, 92), (0, 30, 72, 72), (1, 72, 37, 93), (0, 31, 72, 72), (1, 72, 38, 94), (0, 31, 1024, 1024), (1, 72, 39, 95), (2, 72, 40, 0), (0, 30, 3072, 3072), (1, 72, 41, 96), (0, 30, 100, 100), (1, 72, 42, 97), (0, 30, 256, 256), (1, 72, 43, 98), (0, 30, 8, 8), (1, 72, 45, 99), (0, 31, 8, 8), (1, 72, 46, 100), (0, 30, 16, 16), (1, 72, 47, 101)] h) → kp_ex d 148 R 114 [.ref 72] [] h := by
    intro h hn hK e
    obtain ⟨n, sl, K, I, P, J⟩ := h
    have hn' : n = 86 := hn
    subst hn'
    refine kp_seg (fun p => Nat.beq p 122) 8 ?_
    refine And.intro ⟨by decide, by decide, kLt rfl⟩ ?_
    refine And.intro (congrArg Prod.fst hK) ?_
    exact s15 _ rfl hK e
  have s13 : ∀ h : ka_H, h.1 = 85 → ka_K h 72 = (9, 48) → R (.inl none) (kUl [(0, 30, 14400, 14400), (1, 72, 17, 85), (0, 30, 72, 72), (1, 72, 18, 86), (0, 30, 14400, 14400), (1, 72, 19, 87), (0, 30, 72, 72), (1, 72, 20, 88), (2, 72, 28, 0), (0, 30, 200, 200), (1, 72, 29, 89), (0, 30, 200, 200), (1, 72, 32, 90), (0, 30, 200, 200), (1, 72, 33, 91), (0, 30, 72, 72), (1, 72, 36, 92), (0, 30, 72, 72), (1, 72, 37, 93), (0, 31, 72, 72), (1, 72, 38, 94), (0, 31, 1024, 1024), (1, 72, 39, 95), (2, 72, 40, 0), (0, 30, 3072, 3072), (1, 72, 41, 96), (0, 30, 100, 100), (1, 72, 42, 97), (0, 30, 256, 256), (1, 72, 43, 98), (0, 30, 8, 8), (1, 72, 45, 99), (0, 31, 8, 8), (1, 72, 46, 100), (0, 30, 16, 16), (1, 72, 47, 101)] h) → kp_ex d 148 R 105 [.ref 72] [] h := by
    intro h hn hK e
    obtain ⟨n, sl, K, I, P, J⟩ := h
    have hn' : n = 85 := hn
    subst hn'
    refine kp_seg (fun p => Nat.beq p 114) 8 ?_
    refine And.intro ⟨by decide, by decide, kLt rfl⟩ ?_
    refine And.intro (congrArg Prod.fst hK) ?_
    exact s14 _ rfl hK e
  have s12 : ∀ h : ka_H, h.1 = 84 → ka_K h 72 = (9, 48) → R (.inl none) (kUl [(0, 30, 72, 72), (1, 72, 16, 84), (0, 30, 14400, 14400), (1, 72, 17, 85), (0, 30, 72, 72), (1, 72, 18, 86), (0, 30, 14400, 14400), (1, 72, 19, 87), (0, 30, 72, 72), (1, 72, 20, 88), (2, 72, 28, 0), (0, 30, 200, 200), (1, 72, 29, 89), (0, 30, 200, 200), (1, 72, 32, 90), (0, 30, 200, 200), (1, 72, 33, 91), (0, 30, 72, 72), (1, 72, 36, 92), (0, 30, 72, 72), (1, 72, 37, 93), (0, 31, 72, 72), (1, 72, 38, 94), (0, 31, 1024, 1024), (1, 72, 39, 95), (2, 72, 40, 0), (0, 30, 3072, 3072), (1, 72, 41, 96), (0, 30, 100, 100), (1, 72, 42, 97), (0, 30, 256, 256), (1, 72, 43, 98), (0, 30, 8, 8), (1, 72, 45, 99), (0, 31, 8, 8), (1, 72, 46, 100), (0, 30, 16, 16), (1, 72, 47, 101)] h) → kp_ex d 148 R 97 [.ref 72] [] h := by
    intro h hn hK e
    obtain ⟨n, sl, K, I, P, J⟩ := h
    have hn' : n = 84 := hn
    subst hn'
    refine kp_seg (fun p => Nat.beq p 105) 8 ?_
    refine And.intro ⟨by decide, by decide, kLt rfl⟩ ?_
    refine And.intro (congrArg Prod.fst hK) ?_
    exact s13 _ rfl hK e
  have s11 : ∀ h : ka_H, h.1 = 83 → ka_K h 72 = (9, 48) → R (.inl none) (kUl [(0, 30, 72, 72), (1, 72, 15, 83), (0, 30, 72, 72), (1, 72, 16, 84), (0, 30, 14400, 14400), (1, 72, 17, 85), (0, 30, 72, 72), (1, 72, 18, 86), (0, 30, 14400, 14400), (1, 72, 19, 87), (0, 30, 72, 72), (1, 72, 20, 88), (2, 72, 28, 0), (0, 30, 200, 200), (1, 72, 29, 89), (0, 30, 200, 200), (1, 72, 32, 90), (0, 30, 200, 200), (1, 72, 33, 91), (0, 30, 72, 72), (1, 72, 36, 92), (0, 30, 72, 72), (1, 72, 37, 93), (0, 31, 72, 72), (1, 72, 38, 94), (0, 31, 1024, 1024), (1, 72, 39, 95), (2, 72, 40, 0), (0, 30, 3072, 3072), (1, 72, 41, 96), (0, 30, 100, 100), (1, 72, 42, 97), (0, 30, 256, 256), (1, 72, 43, 98), (0, 30, 8, 8), (1, 72, 45, 99), (0, 31, 8, 8), (1, 72, 46, 100), (0, 30, 16, 16), (1, 72, 47, 101)] h) → kp_ex d 148 R 89 [.ref 72] [] h := by
    intro h hn hK e
    obtain ⟨n, sl, K, I, P, J⟩ := h
    have hn' : n = 83 := hn
    subst hn'
    refine kp_seg (fun p => Nat.beq p 97) 8 ?_
    refine And.intro ⟨by decide, by decide, kLt rfl⟩ ?_
    refine And.intro (congrArg Prod.fst hK) ?_
    exact s12 _ rfl hK e
  have s10 : ∀ h : ka_H, h.1 = 82 → ka_K h 72 = (9, 48) → R (.inl none) (kUl [(0, 30, 72, 72), (1, 72, 14, 82), (0, 30, 72, 72), (1, 72, 15, 83), (0, 30, 72, 72), (1, 72, 16, 84), (0, 30, 14400, 14400), (1, 72, 17, 85), (0, 30, 72, 72), (1, 72, 18, 86), (0, 30, 14400, 14400), (1, 72, 19, 87), (0, 30, 72, 72), (1, 72, 20, 88), (2, 72, 28, 0), (0, 30, 200, 200), (1, 72, 29, 89), (0, 30, 200, 200), (1, 72, 32, 90), (0, 30, 200, 200), (1, 72, 33, 91), (0, 30, 72, 72), (1, 72, 36, 92), (0, 30, 72, 72), (1, 72, 37, 93), (0, 31, 72, 72), (1, 72, 38, 94), (0, 31, 1024, 1024), (1, 72, 39, 95), (2, 72, 40, 0), (0, 30, 3072, 3072), (1, 72, 41, 96), (0, 30, 100, 100), (1, 72, 42, 97), (0, 30, 256, 256), (1, 72, 43, 98), (0, 30, 8, 8), (1, 72, 45, 99), (0, 31, 8, 8), (1, 72, 46, 100), (0, 30, 16, 16), (1, 72, 47, 101)] h) → kp_ex d 148 R 81 [.ref 72] [] h := by
    intro h hn hK e
    obtain ⟨n, sl, K, I, P, J⟩ := h
    have hn' : n = 82 := hn
    subst hn'
    refine kp_seg (fun p => Nat.beq p 89) 8 ?_
    refine And.intro ⟨by decide, by decide, kLt rfl⟩ ?_
    refine And.intro (congrArg Prod.fst hK) ?_
    exact s11 _ rfl hK e
  have s9 : ∀ h : ka_H, h.1 = 81 → ka_K h 72 = (9, 48) → R (.inl none) (kUl [(0, 30, 72, 72), (1, 72, 13, 81), (0, 30, 72, 72), (1, 72, 14, 82), (0, 30, 72, 72), (1, 72, 15, 83), (0, 30, 72, 72), (1, 72, 16, 84), (0, 30, 14400, 14400), (1, 72, 17, 85), (0, 30, 72, 72), (1, 72, 18, 86), (0, 30, 14400, 14400), (1, 72, 19, 87), (0, 30, 72, 72), (1, 72, 20, 88), (2, 72, 28, 0), (0, 30, 200, 200), (1, 72, 29, 89), (0, 30, 200, 200), (1, 72, 32, 90), (0, 30, 200, 200), (1, 72, 33, 91), (0, 30, 72, 72), (1, 72, 36, 92), (0, 30, 72, 72), (1, 72, 37, 93), (0, 31, 72, 72), (1, 72, 38, 94), (0, 31, 1024, 1024), (1, 72, 39, 95), (2, 72, 40, 0), (0, 30, 3072, 3072), (1, 72, 41, 96), (0, 30, 100, 100), (1, 72, 42, 97), (0, 30, 256, 256), (1, 72, 43, 98), (0, 30, 8, 8), (1, 72, 45, 99), (0, 31, 8, 8), (1, 72, 46, 100), (0, 30, 16, 16), (1, 72, 47, 101)] h) → kp_ex d 148 R 73 [.ref 72] [] h := by
    intro h hn hK e
    obtain ⟨n, sl, K, I, P, J⟩ := h
    have hn' : n = 81 := hn
    subst hn'
    refine kp_seg (fun p => Nat.beq p 81) 8 ?_
    refine And.intro ⟨by decide, by decide, kLt rfl⟩ ?_
    refine And.intro (congrArg Prod.fst hK) ?_
    exact s10 _ rfl hK e
  have s8 : ∀ h : ka_H, h.1 = 80 → ka_K h 72 = (9, 48) → R (.inl none) (kUl [(0, 30, 72, 72), (1, 72, 12, 80), (0, 30, 72, 72), (1, 72, 13, 81), (0, 30, 72, 72), (1, 72, 14, 82), (0, 30, 72, 72), (1, 72, 15, 83), (0, 30, 72, 72), (1, 72, 16, 84), (0, 30, 14400, 14400), (1, 72, 17, 85), (0, 30, 72, 72), (1, 72, 18, 86), (0, 30, 14400, 14400), (1, 72, 19, 87), (0, 30, 72, 72), (1, 72, 20, 88), (2, 72, 28, 0), (0, 30, 200, 200), (1, 72, 29, 89), (0, 30, 200, 200), (1, 72, 32, 90), (0, 30, 200, 200), (1, 72, 33, 91), (0, 30, 72, 72), (1, 72, 36, 92), (0, 30, 72, 72), (1, 72, 37, 93), (0, 31, 72, 72), (1, 72, 38, 94), (0, 31, 1024, 1024), (1, 72, 39, 95), (2, 72, 40, 0), (0, 30, 3072, 3072), (1, 72, 41, 96), (0, 30, 100, 100), (1, 72, 42, 97), (0, 30, 256, 256), (1, 72, 43, 98), (0, 30, 8, 8), (1, 72, 45, 99), (0, 31, 8, 8), (1, 72, 46, 100), (0, 30, 16, 16), (1, 72, 47, 101)] h) → kp_ex d 148 R 65 [.ref 72] [] h := by
    intro h hn hK e
    obtain ⟨n, sl, K, I, P, J⟩ := h
    have hn' : n = 80 := hn
    subst hn'
    refine kp_seg (fun p => Nat.beq p 73) 8 ?_
    refine And.intro ⟨by decide, by decide, kLt rfl⟩ ?_
    refine And.intro (congrArg Prod.fst hK) ?_
    exact s9 _ rfl hK e
  have s7 : ∀ h : ka_H, h.1 = 79 → ka_K h 72 = (9, 48) → R (.inl none) (kUl [(0, 30, 6, 6), (1, 72, 11, 79), (0, 30, 72, 72), (1, 72, 12, 80), (0, 30, 72, 72), (1, 72, 13, 81), (0, 30, 72, 72), (1, 72, 14, 82), (0, 30, 72, 72), (1, 72, 15, 83), (0, 30, 72, 72), (1, 72, 16, 84), (0, 30, 14400, 14400), (1, 72, 17, 85), (0, 30, 72, 72), (1, 72, 18, 86), (0, 30, 14400, 14400), (1, 72, 19, 87), (0, 30, 72, 72), (1, 72, 20, 88), (2, 72, 28, 0), (0, 30, 200, 200), (1, 72, 29, 89), (0, 30, 200, 200), (1, 72, 32, 90), (0, 30, 200, 200), (1, 72, 33, 91), (0, 30, 72, 72), (1, 72, 36, 92), (0, 30, 72, 72), (1, 72, 37, 93), (0, 31, 72, 72), (1, 72, 38, 94), (0, 31, 1024, 1024), (1, 72, 39, 95), (2, 72, 40, 0), (0, 30, 3072, 3072), (1, 72, 41, 96), (0, 30, 100, 100), (1, 72, 42, 97), (0, 30, 256, 256), (1, 72, 43, 98), (0, 30, 8, 8), (1, 72, 45, 99), (0, 31, 8, 8), (1, 72, 46, 100), (0, 30, 16, 16), (1, 72, 47, 101)] h) → kp_ex d 148 R 57 [.ref 72] [] h := by
    intro h hn hK e
    obtain ⟨n, sl, K, I, P, J⟩ := h
    have hn' : n = 79 := hn
    subst hn'
    refine kp_seg (fun p => Nat.beq p 65) 8 ?_
    refine And.intro ⟨by decide, by decide, kLt rfl⟩ ?_
    refine And.intro (congrArg Prod.fst hK) ?_
    exact s8 _ rfl hK e
  have s6 : ∀ h : ka_H, h.1 = 78 → ka_K h 72 = (9, 48) → R (.inl none) (kUl [(0, 31, 6, 6), (1, 72, 10, 78), (0, 30, 6, 6), (1, 72, 11, 79), (0, 30, 72, 72), (1, 72, 12, 80), (0, 30, 72, 72), (1, 72, 13, 81), (0, 30, 72, 72), (1, 72, 14, 82), (0, 30, 72, 72), (1, 72, 15, 83), (0, 30, 72, 72), (1, 72, 16, 84), (0, 30, 14400, 14400), (1, 72, 17, 85), (0, 30, 72, 72), (1, 72, 18, 86), (0, 30, 14400, 14400), (1, 72, 19, 87), (0, 30, 72, 72), (1, 72, 20, 88), (2, 72, 28, 0), (0, 30, 200, 200), (1, 72, 29, 89), (0, 30, 200, 200), (1, 72, 32, 90), (0, 30, 200, 200), (1, 72, 33, 91), (0, 30, 72, 72), (1, 72, 36, 92), (0, 30, 72, 72), (1, 72, 37, 93), (0, 31, 72, 72), (1, 72, 38, 94), (0, 31, 1024, 1024), (1, 72, 39, 95), (2, 72, 40, 0), (0, 30, 3072, 3072), (1, 72, 41, 96), (0, 30, 100, 100), (1, 72, 42, 97), (0, 30, 256, 256), (1, 72, 43, 98), (0, 30, 8, 8), (1, 72, 45, 99), (0, 31, 8, 8), (1, 72, 46, 100), (0, 30, 16, 16), (1, 72, 47, 101)] h) → kp_ex d 148 R 49 [.ref 72] [] h := by
    intro h hn hK e
    obtain ⟨n, sl, K, I, P, J⟩ := h
    have hn' : n = 78 := hn
    subst hn'
    refine kp_seg (fun p => Nat.beq p 57) 8 ?_
    refine And.intro ⟨by decide, by decide, kLt rfl⟩ ?_
    refine And.intro (congrArg Prod.fst hK) ?_
    exact s7 _ rfl hK e
  have s5 : ∀ h : ka_H, h.1 = 77 → ka_K h 72 = (9, 48) → R (.inl none) (kUl [(0, 31, 400, 400), (1, 72, 8, 77), (0, 31, 6, 6), (1, 72, 10, 78), (0, 30, 6, 6), (1, 72, 11, 79), (0, 30, 72, 72), (1, 72, 12, 80), (0, 30, 72, 72), (1, 72, 13, 81), (0, 30, 72, 72), (1, 72, 14, 82), (0, 30, 72, 72), (1, 72, 15, 83), (0, 30, 72, 72), (1, 72, 16, 84), (0, 30, 14400, 14400), (1, 72, 17, 85), (0, 30, 72, 72), (1, 72, 18, 86), (0, 30, 14400, 14400), (1, 72, 19, 87), (0, 30, 72, 72), (1, 72, 20, 88), (2, 72, 28, 0), (0, 30, 200, 200), (1, 72, 29, 89), (0, 30, 200, 200), (1, 72, 32, 90), (0, 30, 200, 200), (1, 72, 33, 91), (0, 30, 72, 72), (1, 72, 36, 92), (0, 30, 72, 72), (1, 72, 37, 93), (0, 31, 72, 72), (1, 72, 38, 94), (0, 31, 1024, 1024), (1, 72, 39, 95), (2, 72, 40, 0), (0, 30, 3072, 3072), (1, 72, 41, 96), (0, 30, 100, 100), (1, 72, 42, 97), (0, 30, 256, 256), (1, 72, 43, 98), (0, 30, 8, 8), (1, 72, 45, 99), (0, 31, 8, 8), (1, 72, 46, 100), (0, 30, 16, 16), (1, 72, 47, 101)] h) → kp_ex d 148 R 40 [.ref 72] [] h := by
    intro h hn hK e
    obtain ⟨n, sl, K, I, P, J⟩ := h
    have hn' : n = 77 := hn
    subst hn'
    refine kp_seg (fun p => Nat.beq p 49) 8 ?_
    refine And.intro ⟨by decide, by decide, kLt rfl⟩ ?_
    refine And.intro (congrArg Prod.fst hK) ?_
    exact s6 _ rfl hK e
  have s4 : ∀ h : ka_H, h.1 = 76 → ka_K h 72 = (9, 48) → R (.inl none) (kUl [(0, 30, 400, 400), (1, 72, 7, 76), (0, 31, 400, 400), (1, 72, 8, 77), (0, 31, 6, 6), (1, 72, 10, 78), (0, 30, 6, 6), (1, 72, 11, 79), (0, 30, 72, 72), (1, 72, 12, 80), (0, 30, 72, 72), (1, 72, 13, 81), (0, 30, 72, 72), (1, 72, 14, 82), (0, 30, 72, 72), (1, 72, 15, 83), (0, 30, 72, 72), (1, 72, 16, 84), (0, 30, 14400, 14400), (1, 72, 17, 85), (0, 30, 72, 72), (1, 72, 18, 86), (0, 30, 14400, 14400), (1, 72, 19, 87), (0, 30, 72, 72), (1, 72, 20, 88), (2, 72, 28, 0), (0, 30, 200, 200), (1, 72, 29, 89), (0, 30, 200, 200), (1, 72, 32, 90), (0, 30, 200, 200), (1, 72, 33, 91), (0, 30, 72, 72), (1, 72, 36, 92), (0, 30, 72, 72), (1, 72, 37, 93), (0, 31, 72, 72), (1, 72, 38, 94), (0, 31, 1024, 1024), (1, 72, 39, 95), (2, 72, 40, 0), (0, 30, 3072, 3072), (1, 72, 41, 96), (0, 30, 100, 100), (1, 72, 42, 97), (0, 30, 256, 256), (1, 72, 43, 98), (0, 30, 8, 8), (1, 72, 45, 99), (0, 31, 8, 8), (1, 72, 46, 100), (0, 30, 16, 16), (1, 72, 47, 101)] h) → kp_ex d 148 R 31 [.ref 72] [] h := by
    intro h hn hK e
    obtain ⟨n, sl, K, I, P, J⟩ := h
    have hn' : n = 76 := hn
    subst hn'
    refine kp_seg (fun p => Nat.beq p 40) 8 ?_
    refine And.intro ⟨by decide, by decide, kLt rfl⟩ ?_
    refine And.intro (congrArg Prod.fst hK) ?_
    exact s5 _ rfl hK e
  have s3 : ∀ h : ka_H, h.1 = 75 → ka_K h 72 = (9, 48) → R (.inl none) (kUl [(0, 30, 400, 400), (1, 72, 6, 75), (0, 30, 400, 400), (1, 72, 7, 76), (0, 31, 400, 400), (1, 72, 8, 77), (0, 31, 6, 6), (1, 72, 10, 78), (0, 30, 6, 6), (1, 72, 11, 79), (0, 30, 72, 72), (1, 72, 12, 80), (0, 30, 72, 72), (1, 72, 13, 81), (0, 30, 72, 72), (1, 72, 14, 82), (0, 30, 72, 72), (1, 72, 15, 83), (0, 30, 72, 72), (1, 72, 16, 84), (0, 30, 14400, 14400), (1, 72, 17, 85), (0, 30, 72, 72), (1, 72, 18, 86), (0, 30, 14400, 14400), (1, 72, 19, 87), (0, 30, 72, 72), (1, 72, 20, 88), (2, 72, 28, 0), (0, 30, 200, 200), (1, 72, 29, 89), (0, 30, 200, 200), (1, 72, 32, 90), (0, 30, 200, 200), (1, 72, 33, 91), (0, 30, 72, 72), (1, 72, 36, 92), (0, 30, 72, 72), (1, 72, 37, 93), (0, 31, 72, 72), (1, 72, 38, 94), (0, 31, 1024, 1024), (1, 72, 39, 95), (2, 72, 40, 0), (0, 30, 3072, 3072), (1, 72, 41, 96), (0, 30, 100, 100), (1, 72, 42, 97), (0, 30, 256, 256), (1, 72, 43, 98), (0, 30, 8, 8), (1, 72, 45, 99), (0, 31, 8, 8), (1, 72, 46, 100), (0, 30, 16, 16), (1, 72, 47, 101)] h) → kp_ex d 148 R 22 [.ref 72] [] h := by
    intro h hn hK e
    obtain ⟨n, sl, K, I, P, J⟩ := h
    have hn' : n = 75 := hn
    subst hn'
    refine kp_seg (fun p => Nat.beq p 31) 8 ?_
    refine And.intro ⟨by decide, by decide, kLt rfl⟩ ?_
    refine And.intro (congrArg Prod.fst hK) ?_
    exact s4 _ rfl hK e
  have s2 : ∀ h : ka_H, h.1 = 74 → ka_K h 72 = (9, 48) → R (.inl none) (kUl [(0, 30, 400, 400), (1, 72, 5, 74), (0, 30, 400, 400), (1, 72, 6, 75), (0, 30, 400, 400), (1, 72, 7, 76), (0, 31, 400, 400), (1, 72, 8, 77), (0, 31, 6, 6), (1, 72, 10, 78), (0, 30, 6, 6), (1, 72, 11, 79), (0, 30, 72, 72), (1, 72, 12, 80), (0, 30, 72, 72), (1, 72, 13, 81), (0, 30, 72, 72), (1, 72, 14, 82), (0, 30, 72, 72), (1, 72, 15, 83), (0, 30, 72, 72), (1, 72, 16, 84), (0, 30, 14400, 14400), (1, 72, 17, 85), (0, 30, 72, 72), (1, 72, 18, 86), (0, 30, 14400, 14400), (1, 72, 19, 87), (0, 30, 72, 72), (1, 72, 20, 88), (2, 72, 28, 0), (0, 30, 200, 200), (1, 72, 29, 89), (0, 30, 200, 200), (1, 72, 32, 90), (0, 30, 200, 200), (1, 72, 33, 91), (0, 30, 72, 72), (1, 72, 36, 92), (0, 30, 72, 72), (1, 72, 37, 93), (0, 31, 72, 72), (1, 72, 38, 94), (0, 31, 1024, 1024), (1, 72, 39, 95), (2, 72, 40, 0), (0, 30, 3072, 3072), (1, 72, 41, 96), (0, 30, 100, 100), (1, 72, 42, 97), (0, 30, 256, 256), (1, 72, 43, 98), (0, 30, 8, 8), (1, 72, 45, 99), (0, 31, 8, 8), (1, 72, 46, 100), (0, 30, 16, 16), (1, 72, 47, 101)] h) → kp_ex d 148 R 13 [.ref 72] [] h := by
    intro h hn hK e
    obtain ⟨n, sl, K, I, P, J⟩ := h
    have hn' : n = 74 := hn
    subst hn'
    refine kp_seg (fun p => Nat.beq p 22) 8 ?_
    refine And.intro ⟨by decide, by decide, kLt rfl⟩ ?_
    refine And.intro (congrArg Prod.fst hK) ?_
    exact s3 _ rfl hK e
  have s1 : ∀ h : ka_H, h.1 = 73 → ka_K h 72 = (9, 48) → R (.inl none) (kUl [(0, 30, 400, 400), (1, 72, 4, 73), (0, 30, 400, 400), (1, 72, 5, 74), (0, 30, 400, 400), (1, 72, 6, 75), (0, 30, 400, 400), (1, 72, 7, 76), (0, 31, 400, 400), (1, 72, 8, 77), (0, 31, 6, 6), (1, 72, 10, 78), (0, 30, 6, 6), (1, 72, 11, 79), (0, 30, 72, 72), (1, 72, 12, 80), (0, 30, 72, 72), (1, 72, 13, 81), (0, 30, 72, 72), (1, 72, 14, 82), (0, 30, 72, 72), (1, 72, 15, 83), (0, 30, 72, 72), (1, 72, 16, 84), (0, 30, 14400, 14400), (1, 72, 17, 85), (0, 30, 72, 72), (1, 72, 18, 86), (0, 30, 14400, 14400), (1, 72, 19, 87), (0, 30, 72, 72), (1, 72, 20, 88), (2, 72, 28, 0), (0, 30, 200, 200), (1, 72, 29, 89), (0, 30, 200, 200), (1, 72, 32, 90), (0, 30, 200, 200), (1, 72, 33, 91), (0, 30, 72, 72), (1, 72, 36, 92), (0, 30, 72, 72), (1, 72, 37, 93), (0, 31, 72, 72), (1, 72, 38, 94), (0, 31, 1024, 1024), (1, 72, 39, 95), (2, 72, 40, 0), (0, 30, 3072, 3072), (1, 72, 41, 96), (0, 30, 100, 100), (1, 72, 42, 97), (0, 30, 256, 256), (1, 72, 43, 98), (0, 30, 8, 8), (1, 72, 45, 99), (0, 31, 8, 8), (1, 72, 46, 100), (0, 30, 16, 16), (1, 72, 47, 101)] h) → kp_ex d 148 R 4 [.ref 72] [] h := by
    intro h hn hK e
    obtain ⟨n, sl, K, I, P, J⟩ := h
    have hn' : n = 73 := hn
    subst hn'
    refine kp_seg (fun p => Nat.beq p 13) 8 ?_
    refine And.intro ⟨by decide, by decide, kLt rfl⟩ ?_
    refine And.intro (congrArg Prod.fst hK) ?_
    exact s2 _ rfl hK e
  have s0 : ∀ h : ka_H, h.1 = 73 → ka_K h 72 = (9, 48) → R (.inl none) (kUl [(0, 30, 400, 400), (1, 72, 4, 73), (0, 30, 400, 400), (1, 72, 5, 74), (0, 30, 400, 400), (1, 72, 6, 75), (0, 30, 400, 400), (1, 72, 7, 76), (0, 31, 400, 400), (1, 72, 8, 77), (0, 31, 6, 6), (1, 72, 10, 78), (0, 30, 6, 6), (1, 72, 11, 79), (0, 30, 72, 72), (1, 72, 12, 80), (0, 30, 72, 72), (1, 72, 13, 81), (0, 30, 72, 72), (1, 72, 14, 82), (0, 30, 72, 72), (1, 72, 15, 83), (0, 30, 72, 72), (1, 72, 16, 84), (0, 30, 14400, 14400), (1, 72, 17, 85), (0, 30, 72, 72), (1, 72, 18, 86), (0, 30, 14400, 14400), (1, 72, 19, 87), (0, 30, 72, 72), (1, 72, 20, 88), (2, 72, 28, 0), (0, 30, 200, 200), (1, 72, 29, 89), (0, 30, 200, 200), (1, 72, 32, 90), (0, 30, 200, 200), (1, 72, 33, 91), (0, 30, 72, 72), (1, 72, 36, 92), (0, 30, 72, 72), (1, 72, 37, 93), (0, 31, 72, 72), (1, 72, 38, 94), (0, 31, 1024, 1024), (1, 72, 39, 95), (2, 72, 40, 0), (0, 30, 3072, 3072), (1, 72, 41, 96), (0, 30, 100, 100), (1, 72, 42, 97), (0, 30, 256, 256), (1, 72, 43, 98), (0, 30, 8, 8), (1, 72, 45, 99), (0, 31, 8, 8), (1, 72, 46, 100), (0, 30, 16, 16), (1, 72, 47, 101)] h) → kp_ex d 148 R 0 [.ref 72] [] h := by
    intro h hn hK e
    obtain ⟨n, sl, K, I, P, J⟩ := h
    have hn' : n = 73 := hn
    subst hn'
    refine kp_seg (fun p => Nat.beq p 4) 8 ?_
    refine And.intro (by decide) ?_
    exact s1 _ rfl hK e
  subst hR
  exact kp_in rfl (Nat.le_of_ble_eq_true rfl) rfl (s0 h0 hn0 hK0 ⟨rfl, rfl⟩)
def kUo : Nat → Nat → List (Nat × Nat × Nat × Nat)
  | _, 0 => []
  | j, m + 1 => (0, 3, 8, 8) :: (1, 39 + 2 * j, 0, 1000000) :: (0, 30, 16, 16) :: (1, 39 + 2 * j, 7, 40 + 2 * j) :: (1, 12, j, 39 + 2 * j) :: kUo (j + 1) m
theorem ki_15l {d : Nat} {R : ka_R → ka_H → Prop} : ∀ (m j : Nat) (h : ka_H), j + m = 12 → h.1 = 39 + 2 * j → ka_K h 11 = (1, 5) → ka_P h 11 2 = 12 → ka_K h 12 = (36, 12) → R (.inl none) (kUl (kUo j m) h) → kp_ex (d + 1) 15 R 32 [.ref 11, .ref 9, .int (nI j)] [] h := by
  intro m
  induction m with
  | zero =>
    intro j h hj hn h11 hp h12 e
    exact kp_seg kp_no 10 (And.intro (fun _ => e) (fun c => absurd c (nI_nlt (b := 12) (by omega) (by omega))))
  | succ m ih =>
    intro j h hj hn h11 hp h12 e
    obtain ⟨n, sl, K, I, P, J⟩ := h
    have hn' : n = 39 + 2 * j := hn
    subst hn'
    refine kp_seg (fun p => Nat.beq p 32) 40 ?_
    refine And.intro (fun c => absurd (nI_lt (b := 12) (by omega) (by omega)) c) (fun _ => ?_)
    refine And.intro (congrArg Prod.fst h11) ?_
    refine And.intro (show 39 + 2 * j < 1000000 by omega) ?_
    refine And.intro (show ¬ 39 + 2 * j = 0 by omega) ?_
    refine kp_cn0 (ki_36 (d := d) (b := 39 + 2 * j) (n := 39 + 2 * j + 1) rfl (by omega) (if_pos rfl) (by omega) (by omega)) ?_
    have hp' : P 11 2 = 12 := hp
    rw [show ka_P (39 + 2 * j, sl, K, I, P, J) 11 2 = 12 from hp]
    have k12 : ka_K (kUl [(1, 39 + 2 * j, 0, 1000000), (0, 30, 16, 16), (1, 39 + 2 * j, 7, 39 + 2 * j + 1)] (ka_new (39 + 2 * j, sl, K, I, P, J) 3 8 8)) 12 = (36, 12) := by
      rw [kUl_K _ _ (show 12 < 39 + 2 * j + 1 by omega)]
      exact (if_neg (by omega)).trans h12
    have k11 : ka_K (kUl [(1, 39 + 2 * j, 0, 1000000), (0, 30, 16, 16), (1, 39 + 2 * j, 7, 39 + 2 * j + 1)] (ka_new (39 + 2 * j, sl, K, I, P, J) 3 8 8)) 11 = (1, 5) := by
      rw [kUl_K _ _ (show 11 < 39 + 2 * j + 1 by omega)]
      exact (if_neg (by omega)).trans h11
    have kw : ka_K (kUl [(1, 39 + 2 * j, 0, 1000000), (0, 30, 16, 16), (1, 39 + 2 * j, 7, 39 + 2 * j + 1)] (ka_new (39 + 2 * j, sl, K, I, P, J) 3 8 8)) (39 + 2 * j) = (3, 8) := by
      rw [kUl_K _ _ (show 39 + 2 * j < 39 + 2 * j + 1 by omega)]
      exact if_pos rfl
    refine And.intro ⟨Or.inr (Or.inr ⟨by rw [k12], by rw [kw]⟩), by rw [k12]; exact nI_in (N := 12) (by omega) (by omega)⟩ ?_
    rw [nI_clamp (by omega)]
    have := ih (j + 1) (ka_sP (kUl [(1, 39 + 2 * j, 0, 1000000), (0, 30, 16, 16), (1, 39 + 2 * j, 7, 39 + 2 * j + 1)] (ka_new (39 + 2 * j, sl, K, I, P, J) 3 8 8)) 12 j (39 + 2 * j)) (by omega) (by show 39 + 2 * j + 1 + 1 = _; omega) k11 ?_ k12 ?_
    · rw [nI_succ] at this
      exact this
    · refine (ku_P (1, 12, j, 39 + 2 * j) _ (show 11 < (kUl _ (ka_new _ 3 8 8)).1 by rw [kUl_n]; show 11 < 39 + 2 * j + 1 + _; omega) (fun _ => show ¬ 12 = 11 by decide)).trans ?_
      refine (kUl_P _ _ (show 11 < 39 + 2 * j + 1 by omega) ?_).trans ?_
      · intro u hu hu1
        simp only [List.mem_cons, List.not_mem_nil, or_false] at hu
        rcases hu with rfl | rfl | rfl
        · show ¬ 39 + 2 * j = 11
          omega
        · exact absurd hu1 (by decide)
        · show ¬ 39 + 2 * j = 11
          omega
      · exact (ku_P (0, 3, 8, 8) (39 + 2 * j, sl, K, I, P, J) (show 11 < 39 + 2 * j by omega) (fun z => absurd z (by decide))).trans hp
    · have e' : R (.inl none) (kUl (kUo (j + 1) m) (ka_sP (kUl [(1, 39 + 2 * j, 0, 1000000), (0, 30, 16, 16), (1, 39 + 2 * j, 7, 40 + 2 * j)] (ka_new (39 + 2 * j, sl, K, I, P, J) 3 8 8)) 12 j (39 + 2 * j))) := e
      rw [show 40 + 2 * j = 39 + 2 * j + 1 by omega] at e'
      exact e'
def kUc : List (Nat × Nat × Nat × Nat) := [(3, 7, 16, 0), (1, 13, 1, 14), (3, 7, 16, 0), (1, 13, 2, 22), (3, 7, 16, 0), (1, 13, 3, 30), (0, 30, 200, 200), (1, 13, 4, 38), (1, 13, 0, 9)]
def kUd : List (Nat × Nat × Nat × Nat) := [(0, 36, 12, 12), (1, 11, 2, 12), (1, 11, 0, 9), (0, 0, 7, 7)] ++ kUc ++ (1, 11, 1, 13) :: kUo 0 12
theorem ki_15 {d : Nat} {h : ka_H} (hn : h.1 = 12) (hK : ka_K h 11 = (1, 5)) : kp_T (d + 2) 15 [.ref 11, .ref 9] h (kp_vo (kUl kUd h)) := by
  unfold kUd
  rw [kUl_ap, kUl_ap]
  obtain ⟨n, sl, K, I, P, J⟩ := h
  have hn' : n = 12 := hn
  subst hn'
  refine kp_in rfl (Nat.le_of_ble_eq_true rfl) rfl (kp_seg (fun p => Nat.beq p 32) 40 ?_)
  refine And.intro (by decide) ?_
  refine And.intro ⟨by decide, by decide, by decide, by decide, kLt rfl⟩ ?_
  refine And.intro (congrArg Prod.fst hK) ?_
  refine And.intro (congrArg Prod.fst hK) ?_
  refine And.intro (kLt rfl) ?_
  refine And.intro (show ¬ _ = 0 from kNe0 rfl) ?_
  refine kp_cn0 (ki_1 rfl rfl) ?_
  have gen : ∀ X : ka_H, X.1 = 14 → ka_K X 11 = (1, 5) → ka_P X 11 2 = 12 → ka_K X 12 = (36, 12) → ka_K (kUl kUc X) 11 = (1, 5) ∧ (kUl kUc X).1 = 39 ∧ ka_P (kUl kUc X) 11 2 = 12 ∧ ka_K (kUl kUc X) 12 = (36, 12) := by
    intro X x1 x2 x3 x4
    refine ⟨(kUl_K _ _ (by omega)).trans x2, by rw [kUl_n, x1]; rfl, ?_, (kUl_K _ _ (by omega)).trans x4⟩
    obtain ⟨n, sl, K, I, P, J⟩ := X
    have hn' : n = 14 := x1
    subst hn'
    exact x3
  obtain ⟨y1, y2, y3, y4⟩ := gen (kUl [(0, 36, 12, 12), (1, 11, 2, 12), (1, 11, 0, 9), (0, 0, 7, 7)] (12, sl, K, I, P, J)) rfl hK rfl rfl
  refine (?_ : ∀ Y : ka_H, Y = kUl kUc (kUl [(0, 36, 12, 12), (1, 11, 2, 12), (1, 11, 0, 9), (0, 0, 7, 7)] (12, sl, K, I, P, J)) → (ka_K Y 11).1 = 1 ∧ kp_ex (d + 1) 15 (kp_vo (kUl ((1, 11, 1, 13) :: kUo 0 12) (kUl kUc (kUl [(0, 36, 12, 12), (1, 11, 2, 12), (1, 11, 0, 9), (0, 0, 7, 7)] (12, sl, K, I, P, J))))) 32 [.ref 11, .ref 9, .int (nI 0)] [] (ka_sP Y 11 1 13)) _ rfl
  intro Y hY
  subst hY
  refine ⟨by rw [y1], ki_15l (d := d) 12 0 _ rfl y2 y1 ?_ y4 ⟨rfl, rfl⟩⟩
  exact y3
theorem kUl_c (u : Nat × Nat × Nat × Nat) (l : List (Nat × Nat × Nat × Nat)) (h : ka_H) : kUl (u :: l) h = kUl l (ku u h) := rfl
theorem kz_n {h : ka_H} {a k v m : Nat} (e : h.1 = m) : (ka_sP h a k v).1 = m := e
theorem kz_K {h : ka_H} {a k v b : Nat} {x : Nat × Nat} (e : ka_K h b = x) : ka_K (ka_sP h a k v) b = x := e
theorem kz_P {h : ka_H} {a k v : Nat} : ka_P (ka_sP h a k v) a k = v := by
  show ka_u (ka_P h) a k v a k = v
  unfold ka_u
  rw [if_pos rfl, if_pos rfl]
theorem ku0 (a b c : Nat) (h : ka_H) : ku (0, a, b, c) h = ka_new h a b c := rfl
theorem ku1 (a b c : Nat) (h : ka_H) : ku (1, a, b, c) h = ka_sP h a b c := rfl
def kU25 : List (Nat × Nat × Nat × Nat) := [(0, 30, 400, 400), (1, 2, 0, 3), (0, 30, 400, 400), (1, 2, 1, 4), (0, 30, 400, 400), (1, 2, 2, 5), (0, 30, 400, 400), (1, 2, 3, 6), (0, 30, 400, 400), (1, 2, 4, 7), (0, 30, 100, 100), (1, 2, 5, 8)]
def kU46 : List (Nat × Nat × Nat × Nat) := [(0, 30, 200, 200), (1, 9, 0, 10), (2, 9, 4, 0)]
def kU58 : List (Nat × Nat × Nat × Nat) := [(0, 30, 256, 256), (1, 63, 0, 64), (0, 30, 16, 16), (1, 63, 1, 65), (0, 30, 16, 16), (1, 63, 2, 66), (0, 30, 16, 16), (1, 63, 3, 67)]
def kM8 : List (Nat × Nat × Nat × Nat) := []
def kM7 : List (Nat × Nat × Nat × Nat) := (0, 30, 256, 256) :: (1, 1, 7, 71) :: kM8
def kM6 : List (Nat × Nat × Nat × Nat) := (0, 30, 8, 8) :: (1, 1, 6, 70) :: kM7
def kM5 : List (Nat × Nat × Nat × Nat) := (0, 35, 6, 6) :: (1, 1, 5, 69) :: kM6
def kM4 : List (Nat × Nat × Nat × Nat) := (0, 34, 72, 72) :: (1, 1, 4, 68) :: kM5
def kM3 : List (Nat × Nat × Nat × Nat) := (0, 7, 4, 4) :: (kU58 ++ (1, 1, 3, 63) :: kM4)
def kM2 : List (Nat × Nat × Nat × Nat) := (0, 1, 5, 5) :: (kUd ++ (1, 1, 2, 11) :: kM3)
def kM1 : List (Nat × Nat × Nat × Nat) := (0, 6, 6, 6) :: (kU46 ++ (1, 1, 1, 9) :: kM2)
def kM0 : List (Nat × Nat × Nat × Nat) := (0, 2, 9, 9) :: (kU25 ++ (1, 1, 0, 2) :: kM1)
theorem ki_79 {d : Nat} {h0 : ka_H} (hn0 : h0.1 = 2) (hK0 : ka_K h0 1 = (8, 12)) : kp_T (d + 3) 79 [.ref 1] h0 (kp_vo (kUl kM0 h0)) := by
  generalize hR : kp_vo (kUl kM0 h0) = R
  have s8 : ∀ h : ka_H, R (.inl none) (kUl kM8 h) → kp_ex (d + 2) 79 R 87 [.ref 1] [] h := fun h e => kp_seg kp_no 3 e
  have s7 : ∀ h : ka_H, h.1 = 71 → ka_K h 1 = (8, 12) → R (.inl none) (kUl kM7 h) → kp_ex (d + 2) 79 R 78 [.ref 1] [] h := by
    intro h hn hK e
    obtain ⟨n, sl, K, I, P, J⟩ := h
    have hn' : n = 71 := hn
    subst hn'
    rw [kM7, kUl_c, kUl_c, ku0, ku1] at e
    refine kp_seg (fun p => Nat.beq p 87) 8 ?_
    refine And.intro ⟨by decide, by decide, kLt rfl⟩ ?_
    refine And.intro (congrArg Prod.fst hK) ?_
    exact s8 _ e
  have s6 : ∀ h : ka_H, h.1 = 70 → ka_K h 1 = (8, 12) → R (.inl none) (kUl kM6 h) → kp_ex (d + 2) 79 R 70 [.ref 1] [] h := by
    intro h hn hK e
    obtain ⟨n, sl, K, I, P, J⟩ := h
    have hn' : n = 70 := hn
    subst hn'
    rw [kM6, kUl_c, kUl_c, ku0, ku1] at e
    refine kp_seg (fun p => Nat.beq p 78) 8 ?_
    refine And.intro ⟨by decide, by decide, kLt rfl⟩ ?_
    refine And.intro (congrArg Prod.fst hK) ?_
    exact s7 _ rfl hK e
  have s5 : ∀ h : ka_H, h.1 = 69 → ka_K h 1 = (8, 12) → R (.inl none) (kUl kM5 h) → kp_ex (d + 2) 79 R 61 [.ref 1] [] h := by
    intro h hn hK e
    obtain ⟨n, sl, K, I, P, J⟩ := h
    have hn' : n = 69 := hn
    subst hn'
    rw [kM5, kUl_c, kUl_c, ku0, ku1] at e
    refine kp_seg (fun p => Nat.beq p 70) 8 ?_
    refine And.intro ⟨by decide, by decide, by decide, by decide, kLt rfl⟩ ?_
    refine And.intro (congrArg Prod.fst hK) ?_
    exact s6 _ rfl hK e
  have s4 : ∀ h : ka_H, h.1 = 68 → ka_K h 1 = (8, 12) → R (.inl none) (kUl kM4 h) → kp_ex (d + 2) 79 R 52 [.ref 1] [] h := by
    intro h hn hK e
    obtain ⟨n, sl, K, I, P, J⟩ := h
    have hn' : n = 68 := hn
    subst hn'
    rw [kM4, kUl_c, kUl_c, ku0, ku1] at e
    refine kp_seg (fun p => Nat.beq p 61) 8 ?_
    refine And.intro ⟨by decide, by decide, by decide, by decide, kLt rfl⟩ ?_
    refine And.intro (congrArg Prod.fst hK) ?_
    exact s5 _ rfl hK e
  have s3 : ∀ h : ka_H, h.1 = 63 → ka_K h 1 = (8, 12) → R (.inl none) (kUl kM3 h) → kp_ex (d + 2) 79 R 41 [.ref 1] [] h := by
    intro h hn hK e
    obtain ⟨n, sl, K, I, P, J⟩ := h
    have hn' : n = 63 := hn
    subst hn'
    rw [kM3, kUl_c, kUl_ap, kUl_c, ku0, ku1] at e
    have hY : ka_K (kUl kU58 (ka_new (63, sl, K, I, P, J) 7 4 4)) 1 = (8, 12) := by
      rw [kUl_K _ _ (show 1 < 64 by decide)]
      exact hK
    have hZ : (kUl kU58 (ka_new (63, sl, K, I, P, J) 7 4 4)).1 = 68 := by
      rw [kUl_n]
      rfl
    refine kp_seg (fun p => Nat.beq p 52) 12 ?_
    refine And.intro (kLt rfl) ?_
    refine And.intro (show ¬ 63 = 0 by decide) ?_
    refine kp_cn0 (ki_58 (h := (ka_new (63, sl, K, I, P, J) 7 4 4)) rfl rfl) ?_
    refine And.intro (congrArg Prod.fst hY) ?_
    exact s4 _ (kz_n hZ) (kz_K hY) e
  have s2 : ∀ h : ka_H, h.1 = 11 → ka_K h 1 = (8, 12) → ka_P h 1 1 = 9 → R (.inl none) (kUl kM2 h) → kp_ex (d + 2) 79 R 26 [.ref 1] [] h := by
    intro h hn hK hp e
    obtain ⟨n, sl, K, I, P, J⟩ := h
    have hn' : n = 11 := hn
    subst hn'
    rw [kM2, kUl_c, kUl_ap, kUl_c, ku0, ku1] at e
    have hY : ka_K (kUl kUd (ka_new (11, sl, K, I, P, J) 1 5 5)) 1 = (8, 12) := by
      rw [kUl_K _ _ (show 1 < 12 by decide)]
      exact hK
    have hZ : (kUl kUd (ka_new (11, sl, K, I, P, J) 1 5 5)).1 = 63 := by
      rw [kUl_n]
      rfl
    have T := ki_15 (d := d) (h := (ka_new (11, sl, K, I, P, J) 1 5 5)) rfl rfl
    rw [← (show P 1 1 = 9 from hp)] at T
    refine kp_seg (fun p => Nat.beq p 41) 12 ?_
    refine And.intro (kLt rfl) ?_
    refine And.intro (congrArg Prod.fst hK) ?_
    refine And.intro (show ¬ 11 = 0 by decide) ?_
    refine kp_cn0 T ?_
    refine And.intro (congrArg Prod.fst hY) ?_
    exact s3 _ (kz_n hZ) (kz_K hY) e
  have s1 : ∀ h : ka_H, h.1 = 9 → ka_K h 1 = (8, 12) → R (.inl none) (kUl kM1 h) → kp_ex (d + 2) 79 R 15 [.ref 1] [] h := by
    intro h hn hK e
    obtain ⟨n, sl, K, I, P, J⟩ := h
    have hn' : n = 9 := hn
    subst hn'
    rw [kM1, kUl_c, kUl_ap, kUl_c, ku0, ku1] at e
    have hY : ka_K (kUl kU46 (ka_new (9, sl, K, I, P, J) 6 6 6)) 1 = (8, 12) := by
      rw [kUl_K _ _ (show 1 < 10 by decide)]
      exact hK
    have hZ : (kUl kU46 (ka_new (9, sl, K, I, P, J) 6 6 6)).1 = 11 := by
      rw [kUl_n]
      rfl
    refine kp_seg (fun p => Nat.beq p 26) 12 ?_
    refine And.intro (kLt rfl) ?_
    refine And.intro (show ¬ 9 = 0 by decide) ?_
    refine kp_cn0 (ki_46 (h := (ka_new (9, sl, K, I, P, J) 6 6 6)) rfl rfl) ?_
    refine And.intro (congrArg Prod.fst hY) ?_
    exact s2 _ (kz_n hZ) (kz_K hY) kz_P e
  have s0 : ∀ h : ka_H, h.1 = 2 → ka_K h 1 = (8, 12) → R (.inl none) (kUl kM0 h) → kp_ex (d + 2) 79 R 4 [.ref 1] [] h := by
    intro h hn hK e
    obtain ⟨n, sl, K, I, P, J⟩ := h
    have hn' : n = 2 := hn
    subst hn'
    rw [kM0, kUl_c, kUl_ap, kUl_c, ku0, ku1] at e
    have hY : ka_K (kUl kU25 (ka_new (2, sl, K, I, P, J) 2 9 9)) 1 = (8, 12) := by
      rw [kUl_K _ _ (show 1 < 3 by decide)]
      exact hK
    have hZ : (kUl kU25 (ka_new (2, sl, K, I, P, J) 2 9 9)).1 = 9 := by
      rw [kUl_n]
      rfl
    refine kp_seg (fun p => Nat.beq p 15) 12 ?_
    refine And.intro (kLt rfl) ?_
    refine And.intro (show ¬ 2 = 0 by decide) ?_
    refine kp_cn0 (ki_25 (h := (ka_new (2, sl, K, I, P, J) 2 9 9)) rfl rfl) ?_
    refine And.intro (congrArg Prod.fst hY) ?_
    exact s1 _ (kz_n hZ) (kz_K hY) e
  subst hR
  refine kp_in rfl (Nat.le_of_ble_eq_true rfl) rfl (kp_seg (fun p => Nat.beq p 4) 6 ?_)
  refine And.intro (by decide) ?_
  exact s0 h0 hn0 hK0 ⟨rfl, rfl⟩
/-- the heap at the start of the law's loop -/
def kHs (h : ka_H) : ka_H := ka_new (kUl kUm (ka_new (kUl kM0 (ka_new h 8 12 12)) 9 48 48)) 32 1 1
theorem kl_start {R : ka_R → ka_H → Prop} {h : ka_H} (h1 : h.1 = 1) (k : kp_ex 201 0 R 23 [.ref 1000092, .ref 1, .ref 72, .ref 102, .int (nI 0), .retAddr 0, .retAddr 0] [] (kHs h)) : kp_T 202 0 [.ref 1000092] h R := by
  have s3 : ∀ X : ka_H, X.1 = 102 → kp_ex 201 0 R 23 [.ref 1000092, .ref 1, .ref 72, .ref 102, .int (nI 0), .retAddr 0, .retAddr 0] [] (ka_new X 32 1 1) → kp_ex 201 0 R 16 [.ref 1000092, .ref 1, .ref 72, .retAddr 0, .retAddr 0, .retAddr 0, .retAddr 0] [] X := by
    intro X hX e
    obtain ⟨n, sl, K, I, P, J⟩ := X
    have hn' : n = 102 := hX
    subst hn'
    refine kp_seg (fun p => Nat.beq p 23) 12 ?_
    exact And.intro ⟨by decide, by decide, kLt rfl⟩ e
  have s2 : ∀ X : ka_H, X.1 = 72 → kp_ex 201 0 R 23 [.ref 1000092, .ref 1, .ref 72, .ref 102, .int (nI 0), .retAddr 0, .retAddr 0] [] (ka_new (kUl kUm (ka_new X 9 48 48)) 32 1 1) → kp_ex 201 0 R 8 [.ref 1000092, .ref 1, .retAddr 0, .retAddr 0, .retAddr 0, .retAddr 0, .retAddr 0] [] X := by
    intro X hX e
    obtain ⟨n, sl, K, I, P, J⟩ := X
    have hn' : n = 72 := hX
    subst hn'
    refine kp_seg (fun p => Nat.beq p 16) 12 ?_
    refine And.intro (kLt rfl) ?_
    refine And.intro (show ¬ 72 = 0 by decide) ?_
    refine kp_cn0 (ki_148 (d := 200) rfl rfl) ?_
    exact s3 _ (by rw [kUl_n]; rfl) e
  obtain ⟨n, sl, K, I, P, J⟩ := h
  have hn' : n = 1 := h1
  subst hn'
  refine kp_in rfl (Nat.le_of_ble_eq_true rfl) rfl (kp_seg (fun p => Nat.beq p 8) 12 ?_)
  refine And.intro (kLt rfl) ?_
  refine And.intro (show ¬ 1 = 0 by decide) ?_
  refine kp_cn0 (ki_79 (d := 198) rfl rfl) ?_
  exact s2 _ (by rw [kUl_n]; rfl) k

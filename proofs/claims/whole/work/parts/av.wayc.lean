/-! ===== the class: ways ===== -/
/-- how far x is away from b, as the class keeps it: looked for up to j -/
def wS (E : Nat → Nat → Prop) (b j x : Nat) (v : Int32) : Prop := (∃ n, n ≤ j ∧ v = nI n ∧ wR E b n x ∧ ∀ m, m < n → ¬ wR E b m x) ∨ (v = -1 ∧ ¬ wR E b j x)
/-- the next one, as the class finds it among the first k -/
def wN (E : Nat → Nat → Prop) (b x k : Nat) (v : Int32) : Prop := (v = -1 ∧ ∀ t, t < k → E x t → ¬ wR E b 15 t) ∨ ∃ t n, t < k ∧ n ≤ 15 ∧ v = nI t ∧ E x t ∧ wR E b n t ∧ (∀ m, m < n → ¬ wR E b m t) ∧ (∀ t', t' < k → E x t' → ∀ m, m < n → ¬ wR E b m t') ∧ ∀ t', t' < t → E x t' → ¬ wR E b n t'
abbrev kLk (h : ka_H) (E : Nat → Nat → Prop) : Prop := ∀ a, a < 16 → ∀ i, i < 32 → (bt (ka_I h 66 a) i = true ↔ i < 16 ∧ E a i)
section WC
variable {g : Nat × (Nat → Int32)} {d : Nat} {h : ka_H} {R : ka_R → ka_H → Prop} {E : Nat → Nat → Prop} {b : Nat}
theorem b_meet {x y : Int32} : x &&& y = 0 ↔ ∀ i, i < 32 → ¬ (bt x i = true ∧ bt y i = true) := by
  constructor
  · intro h i _ z
    have := b_and x y i
    rw [h, b_0, z.1, z.2] at this
    cases this
  · intro h
    refine b_ext fun i hi => ?_
    rw [b_and, b_0]
    cases hx : bt x i with
    | false => rfl
    | true =>
      cases hy : bt y i with
      | false => rfl
      | true => exact absurd ⟨hx, hy⟩ (h i hi)
theorem wS_m1 {j x : Nat} {v : Int32} (hj : j ≤ 16) (h : wS E b j x v) : v = -1 ↔ ¬ wR E b j x := by
  rcases h with ⟨n, n1, n2, n3, n4⟩ | ⟨h1, h2⟩
  · constructor
    · intro z; rw [n2] at z; exact absurd z (nI_ne_m1 (by omega))
    · intro z; exact absurd (n3.le' n1) z
  · exact ⟨fun _ => h2, fun _ => h1⟩
theorem kc_measure (hf : kf g h) (hb : b < 16) (hl : kLk h E) (e : ∀ F, (∀ x, x < 16 → wS E b 15 x (F x)) → R (.inl none) (ka_sF h 67 F)) : kp_T (d + 2) 77 [.ref 63, .int (nI b)] h R := by
  have fF : ∀ F, kf g (ka_sF h 67 F) := fun F => kf_F hf 67 rfl rfl
  have k67 : ∀ F, kr (ka_sF h 67 F) 67 16 := fun F => ⟨kK (fF F) rfl rfl, kZ (fF F) rfl rfl⟩
  have k66 : ∀ F, kr (ka_sF h 67 F) 66 16 := fun F => ⟨kK (fF F) rfl rfl, kZ (fF F) rfl rfl⟩
  have K63 : ∀ F, (ka_K (ka_sF h 67 F) 63).1 = 7 := fun F => kK (fF F) rfl rfl
  -- one round
  have inner : ∀ j nr, j < 15 → (∀ i, i < 32 → (bt nr i = true ↔ i < 16 ∧ wR E b j i)) → (∀ F re, (∀ x, x < 16 → wS E b (j + 1) x (F x)) → (∀ i, i < 32 → (bt re i = true ↔ i < 16 ∧ wR E b (j + 1) i)) → ∀ z4 z5, kd_ex g (d + 1) 77 R 85 [.ref 63, .int (nI b), .int re, .int (nI (j + 1)), z4, z5] [] (ka_sF h 67 F)) → ∀ F, (∀ x, x < 16 → wS E b j x (F x)) → kd_ex g (d + 1) 77 R 33 [.ref 63, .int (nI b), .int nr, .int (nI (j + 1)), .int nr, .int (nI 0)] [] (ka_sF h 67 F) := by
    intro j nr hj hnr out F hF
    have hd := kq_for (P := fun k => ∀ F re, (∀ x, x < 16 → (x < k → wS E b (j + 1) x (F x)) ∧ (k ≤ x → wS E b j x (F x))) → (∀ i, i < 32 → (bt re i = true ↔ i < 16 ∧ ((i < k ∧ wR E b (j + 1) i) ∨ wR E b j i))) → kd_ex g (d + 1) 77 R 33 [.ref 63, .int (nI b), .int re, .int (nI (j + 1)), .int nr, .int (nI k)] [] (ka_sF h 67 F)) 16 ?_ (fun k hk ih F re hF hre => ?_)
    · refine hd F nr (fun x hx => ⟨fun z => absurd z (Nat.not_lt_zero _), fun _ => hF x hx⟩) (fun i hi => ?_)
      rw [hnr i hi]
      constructor
      · rintro ⟨h1, h2⟩; exact ⟨h1, Or.inr h2⟩
      · rintro ⟨h1, h2 | h2⟩
        · exact absurd h2.1 (Nat.not_lt_zero _)
        · exact ⟨h1, h2⟩
    · intro F re hF hre
      refine kd_seg (fun p => Nat.beq p 33 || Nat.beq p 85) 10 ⟨fun _ => ?_, fun y => absurd y (nI_nlt (b := 16) (by omega) (by omega))⟩
      refine out F re (fun x hx => (hF x hx).1 hx) (fun i hi => ?_) _ _
      rw [hre i hi]
      constructor
      · rintro ⟨h1, h2 | h2⟩
        · exact ⟨h1, h2.2⟩
        · exact ⟨h1, Or.inl h2⟩
      · rintro ⟨h1, h2⟩; exact ⟨h1, Or.inl ⟨h1, h2⟩⟩
    · rw [nI_succ k] at ih
      have j79 : ∀ F re, (∀ x, x < 16 → (x < k + 1 → wS E b (j + 1) x (F x)) ∧ (k + 1 ≤ x → wS E b j x (F x))) → (∀ i, i < 32 → (bt re i = true ↔ i < 16 ∧ ((i < k + 1 ∧ wR E b (j + 1) i) ∨ wR E b j i))) → kd_ex g (d + 1) 77 R 79 [.ref 63, .int (nI b), .int re, .int (nI (j + 1)), .int nr, .int (nI k)] [] (ka_sF h 67 F) := fun F re h1 h2 => kd_seg (fun p => Nat.beq p 33) 10 (ih F re h1 h2)
      have wk := (hF k hk).2 (Nat.le_refl _)
      have hm1 := wS_m1 (by omega) wk
      -- nothing new at k
      have same : (wR E b (j + 1) k → wR E b j k) → kd_ex g (d + 1) 77 R 79 [.ref 63, .int (nI b), .int re, .int (nI (j + 1)), .int nr, .int (nI k)] [] (ka_sF h 67 F) := fun hs => by
        refine j79 F re (fun x hx => ⟨fun z => ?_, fun z => (hF x hx).2 (by omega)⟩) (fun i hi => ?_)
        · rcases Nat.lt_or_ge x k with c | c
          · exact (hF x hx).1 c
          · rw [show x = k by omega]
            rcases wk with ⟨n, n1, n2, n3, n4⟩ | ⟨n1, n2⟩
            · exact Or.inl ⟨n, by omega, n2, n3, n4⟩
            · exact Or.inr ⟨n1, fun z => n2 (hs z)⟩
        · rw [hre i hi]
          constructor
          · rintro ⟨h1, h2 | h2⟩
            · exact ⟨h1, Or.inl ⟨by omega, h2.2⟩⟩
            · exact ⟨h1, Or.inr h2⟩
          · rintro ⟨h1, h2 | h2⟩
            · rcases Nat.lt_or_ge i k with c | c
              · exact ⟨h1, Or.inl ⟨c, h2.2⟩⟩
              · have e : i = k := by omega
                rw [e] at h2 ⊢
                exact ⟨hk, Or.inr (hs h2.2)⟩
            · exact ⟨h1, Or.inr h2⟩
      refine kd_seg (fun p => Nat.beq p 33 || Nat.beq p 79) 40 ⟨fun y => absurd (nI_lt (b := 16) hk (by omega)) y, fun _ => ⟨K63 F, ⟨kr_in (k67 F) hk (by omega), ?_⟩⟩⟩
      rw [nI_clamp (by omega), show ka_I (ka_sF h 67 F) (kq_p (ka_sF h 67 F) 63 3) k = F k from congrFun (ka_I_F h 67 F) k]
      refine ⟨fun y => same (fun _ => Classical.not_not.mp (fun u => y (hm1.mpr u))), fun y => ⟨K63 F, ⟨kr_in (k66 F) hk (by omega), ?_⟩⟩⟩
      have hno : ¬ wR E b j k := hm1.mp y
      rw [nI_clamp (by omega), show ka_I (ka_sF h 67 F) (kq_p (ka_sF h 67 F) 63 2) k = ka_I h 66 k from congrFun (ka_I_Fn h F (show (66 : Nat) ≠ 67 by decide)) k]
      refine ⟨fun y2 => same (fun u => ?_), fun y2 => ⟨K63 F, ⟨(k67 F).1, ⟨kr_st (k67 F) hk (by omega), ?_⟩⟩⟩⟩
      · rcases u with u | ⟨t, t1, t2, t3⟩
        · exact u
        · exact absurd ⟨(hl k hk t (by omega)).mpr ⟨t1, t2⟩, (hnr t (by omega)).mpr ⟨t1, t3⟩⟩ (b_meet.mp y2 t (by omega))
      · have hyes : wR E b (j + 1) k := by
          refine Classical.byContradiction fun u => y2 (b_meet.mpr fun i hi z => u (Or.inr ?_))
          obtain ⟨i1, i2⟩ := (hl k hk i hi).mp z.1
          exact ⟨i, i1, i2, ((hnr i hi).mp z.2).2⟩
        rw [nI_clamp (by omega), show kq_p (ka_sF h 67 F) 63 3 = 67 from rfl, ka_sI_F]
        refine j79 _ _ (fun x hx => ⟨fun z => ?_, fun z => ?_⟩) (fun i hi => ?_)
        · by_cases c : x = k
          · rw [c, kh_uS]
            exact Or.inl ⟨j + 1, Nat.le_refl _, rfl, hyes, fun m hm z => hno (z.le' (by omega))⟩
          · rw [kh_uN _ _ c]
            exact (hF x hx).1 (by omega)
        · rw [kh_uN _ _ (by omega)]
          exact (hF x hx).2 (by omega)
        · have hone : bt ((Int32.ofInt 1) <<< (nI k &&& 31)) i = decide (i = k) := b_one (by omega) hi
          rw [b_or, Bool.or_eq_true, hre i hi]
          constructor
          · rintro (⟨h1, h2 | h2⟩ | h2)
            · exact ⟨h1, Or.inl ⟨by omega, h2.2⟩⟩
            · exact ⟨h1, Or.inr h2⟩
            · have e : i = k := of_decide_eq_true (hone.symm.trans h2)
              rw [e]
              exact ⟨hk, Or.inl ⟨by omega, hyes⟩⟩
          · rintro ⟨h1, h2 | h2⟩
            · by_cases c : i = k
              · exact Or.inr (hone.trans (decide_eq_true c))
              · exact Or.inl ⟨h1, Or.inl ⟨by omega, h2.2⟩⟩
            · exact Or.inl ⟨h1, Or.inr h2⟩
  have outer : ∀ m j re, j + m = 15 → ∀ F, (∀ x, x < 16 → wS E b j x (F x)) → (∀ i, i < 32 → (bt re i = true ↔ i < 16 ∧ wR E b j i)) → ∀ z4 z5, kd_ex g (d + 1) 77 R 21 [.ref 63, .int (nI b), .int re, .int (nI (j + 1)), z4, z5] [] (ka_sF h 67 F) := by
    intro m
    induction m with
    | zero =>
      intro j re hj F hF hre z4 z5
      refine kd_seg (fun p => Nat.beq p 21) 10 ⟨fun _ => ?_, fun y => absurd y (nI_nlt (b := 16) (by omega) (by omega))⟩
      rw [show j = 15 by omega] at hF
      exact e F hF
    | succ m ih =>
      intro j re hj F hF hre z4 z5
      refine kd_seg (fun p => Nat.beq p 21 || Nat.beq p 33) 10 ⟨fun y => absurd (nI_lt (b := 16) (by omega) (by omega)) y, fun _ => ?_⟩
      refine inner j re (by omega) hre (fun F' re' h1 h2 z4 z5 => ?_) F hF
      have := ih (j + 1) re' (by omega) F' h1 h2 z4 z5
      rw [nI_succ (j + 1)] at this
      exact kd_seg (fun p => Nat.beq p 21) 10 this
  refine kd_in hf rfl rfl rfl (kd_seg (fun p => Nat.beq p 21) 30 ⟨kK hf rfl rfl, ?_⟩)
  refine kq_cv (kc_fill hf (r := 67) (n := 16) ⟨kK hf rfl rfl, kZ hf rfl rfl⟩ (by omega)) (fF _) ⟨K63 _, ⟨(k67 _).1, ⟨kr_st (k67 _) hb (by omega), ?_⟩⟩⟩
  rw [nI_clamp (by omega)]
  refine (?_ : kd_ex g (d + 1) 77 R 21 [.ref 63, .int (nI b), .int (Int32.ofInt 1 <<< (nI b &&& 31)), .int (nI (0 + 1)), .retAddr 0, .retAddr 0] [] (ka_sI (ka_sF h 67 (kh_o (ka_I h 67) (fun _ => Int32.ofInt (-1)) 16)) 67 b (Int32.ofInt 0)))
  rw [ka_sI_F]
  refine outer 15 0 _ rfl _ (fun x hx => ?_) (fun i hi => ?_) _ _
  · by_cases c : x = b
    · rw [c, kh_uS]
      exact Or.inl ⟨0, Nat.le_refl _, rfl, rfl, fun m hm => absurd hm (Nat.not_lt_zero _)⟩
    · rw [kh_uN _ _ c, kh_o_T _ _ hx]
      exact Or.inr ⟨rfl, c⟩
  · rw [show bt ((Int32.ofInt 1) <<< (nI b &&& 31)) i = decide (i = b) from b_one (by omega) hi, decide_eq_true_eq]
    constructor
    · intro z; exact ⟨by omega, z⟩
    · rintro ⟨-, z⟩; exact z
/-- the next one of the way -/
theorem kc_next {x : Nat} (hf : kf g h) (hx : x < 16) (hl : kLk h E) (hs : ∀ x, x < 16 → wS E b 15 x (ka_I h 67 x)) (e : ∀ v, wN E b x 16 v → R (kp_ri v) h) : kp_T (d + 1) 78 [.ref 63, .int (nI x)] h R := by
  have k67 : kr h 67 16 := ⟨kK hf rfl rfl, kZ hf rfl rfl⟩
  have k66 : kr h 66 16 := ⟨kK hf rfl rfl, kZ hf rfl rfl⟩
  have K63 : (ka_K h 63).1 = 7 := kK hf rfl rfl
  have hd := kq_for (P := fun k => ∀ v z, wN E b x k v → kd_ex g d 78 R 4 [.ref 63, .int (nI x), .int v, .int (nI k), z] [] h) 16 ?_ (fun k hk ih v z hv => ?_)
  · refine kd_in hf rfl rfl rfl (kd_seg (fun p => Nat.beq p 4) 10 ?_)
    exact hd _ _ (Or.inl ⟨rfl, fun t ht => absurd ht (Nat.not_lt_zero t)⟩)
  · intro v z hv
    exact kd_seg (fun p => Nat.beq p 4) 10 ⟨fun _ => ⟨trivial, e v hv⟩, fun y => absurd y (nI_nlt (b := 16) (by omega) (by omega))⟩
  · rw [nI_succ] at ih
    have j67 : ∀ v z, wN E b x (k + 1) v → kd_ex g d 78 R 67 [.ref 63, .int (nI x), .int v, .int (nI k), z] [] h := fun v z hv => kd_seg (fun p => Nat.beq p 4) 10 (ih v z hv)
    -- k doesn't lead to the end
    have no : ¬ (E x k ∧ wR E b 15 k) → kd_ex g d 78 R 37 [.ref 63, .int (nI x), .int v, .int (nI k), z] [] h := fun hno => by
      refine kd_seg (fun p => Nat.beq p 67) 10 ⟨fun _ => ?_, fun y => absurd rfl y⟩
      refine j67 v _ ?_
      rcases hv with ⟨h1, h2⟩ | ⟨t, n, t1, t2, t3, t4, t5, t6, t7, t8⟩
      · refine Or.inl ⟨h1, fun t ht he hr => ?_⟩
        rcases Nat.lt_or_ge t k with c | c
        · exact h2 t c he hr
        · rw [show t = k by omega] at he hr
          exact hno ⟨he, hr⟩
      · refine Or.inr ⟨t, n, by omega, t2, t3, t4, t5, t6, fun t' ht he m hm hr => ?_, t8⟩
        rcases Nat.lt_or_ge t' k with c | c
        · exact t7 t' c he m hm hr
        · rw [show t' = k by omega] at he hr
          exact hno ⟨he, hr.le' (by omega)⟩
    have sk := hs k hk
    refine kd_seg (fun p => Nat.beq p 4 || Nat.beq p 37 || Nat.beq p 38) 40 ⟨fun y => absurd (nI_lt (b := 16) hk (by omega)) y, fun _ => ⟨K63, ⟨kr_in k66 hx (by omega), ?_⟩⟩⟩
    rw [nI_clamp (by omega)]
    have hbit : (ka_I h (kq_p h 63 2) x >>> (nI k &&& 31)) &&& 1 = if bt (ka_I h 66 x) k = true then 1 else 0 := b_bit _ (by omega)
    have hlk := hl x hx k (by omega)
    by_cases c1 : bt (ka_I h 66 x) k = true
    · rw [if_pos c1] at hbit
      have hE := (hlk.mp c1).2
      refine ⟨fun y => absurd (hbit.symm.trans y) (by decide), fun _ => ⟨K63, ⟨kr_in k67 hk (by omega), ?_⟩⟩⟩
      rw [nI_clamp (by omega), show ka_I h (kq_p h 63 3) k = ka_I h 67 k from rfl]
      refine ⟨fun y => no (fun u => (wS_m1 (by omega) sk).mp y u.2), fun y => ?_⟩
      have hyes : wR E b 15 k := Classical.not_not.mp (fun u => y ((wS_m1 (by omega) sk).mpr u))
      obtain ⟨n, n1, n2, n3, n4⟩ := sk.resolve_right (fun u => u.2 hyes)
      refine (kd_seg (fun p => Nat.beq p 65 || Nat.beq p 67) 20 ⟨fun y => absurd y (by decide), fun _ => ?_⟩ : kd_ex g d 78 R 38 [.ref 63, .int (nI x), .int v, .int (nI k), z] [.int 1] h)
      rcases hv with ⟨h1, h2⟩ | ⟨t, n', t1, t2, t3, t4, t5, t6, t7, t8⟩
      · refine ⟨fun _ => ?_, fun y => absurd h1 y⟩
        refine kd_seg (fun p => Nat.beq p 67) 10 (j67 (nI k) _ (Or.inr ⟨k, n, by omega, n1, rfl, hE, n3, n4, fun t' ht he m hm hr => ?_, fun t' ht he hr => h2 t' ht he (hr.le' n1)⟩))
        rcases Nat.lt_or_ge t' k with c | c
        · exact h2 t' c he (hr.le' (by omega))
        · rw [show t' = k by omega] at hr
          exact n4 m hm hr
      · refine ⟨fun y => absurd (t3.symm.trans y) (nI_ne_m1 (by omega)), fun _ => ⟨K63, ⟨kr_in k67 hk (by omega), ⟨K63, ⟨?_, ?_⟩⟩⟩⟩⟩
        · rw [t3]; exact kr_in k67 (by omega) (by omega)
        · have st := hs t (by omega)
          obtain ⟨n2', m1, m2, m3, m4⟩ := st.resolve_right (fun u => u.2 (t5.le' t2))
          have en : n2' = n' := by
            rcases Nat.lt_trichotomy n2' n' with c | c | c
            · exact absurd m3 (t6 n2' c)
            · exact c
            · exact absurd t5 (m4 n' c)
          rw [t3, nI_clamp (by omega), nI_clamp (by omega), show ka_I h (kq_p h 63 3) k = nI n from n2, show ka_I h (kq_p h 63 3) t = nI n2' from m2, en]
          refine ⟨fun y => ?_, fun y => ?_⟩
          · have hle : n' ≤ n := by
              rcases Nat.lt_or_ge n n' with c | c
              · exact absurd (nI_lt c (by omega)) y
              · exact c
            refine j67 (nI t) _ (Or.inr ⟨t, n', by omega, t2, rfl, t4, t5, t6, fun t' ht he m hm hr => ?_, t8⟩)
            rcases Nat.lt_or_ge t' k with c | c
            · exact t7 t' c he m hm hr
            · rw [show t' = k by omega] at hr
              exact n4 m (by omega) hr
          · have hlt : n < n' := (nI_ltI (by omega) (by omega)).mp y
            refine kd_seg (fun p => Nat.beq p 67) 10 (j67 (nI k) _ (Or.inr ⟨k, n, by omega, n1, rfl, hE, n3, n4, fun t' ht he m hm hr => ?_, fun t' ht he hr => t7 t' ht he n hlt hr⟩))
            rcases Nat.lt_or_ge t' k with c | c
            · exact t7 t' c he m (by omega) hr
            · rw [show t' = k by omega] at hr
              exact n4 m hm hr
    · rw [if_neg c1] at hbit
      exact ⟨fun _ => no (fun u => c1 (hlk.mpr ⟨hk, u.1⟩)), fun y => absurd hbit y⟩
end WC

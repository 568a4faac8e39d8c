/-! ===== the reference: ways ===== -/
/-- how long the way from x is, as the reference keeps it: looked for up to j -/
def wU (E : Nat → Nat → Prop) (b j x : Nat) (v : Int32) : Prop := (∃ n, n < j ∧ v = nI (n + 1) ∧ wM E b x n) ∨ (v = 0 ∧ ∀ n, n < j → ¬ wM E b x n)
section WX
variable {g : Nat × (Nat → Int32)} {d : Nat} {h : ka_H} {R : ka_R → ka_H → Prop} {E : Nat → Nat → Prop} {b : Nat}
theorem wU_is {j x n : Nat} {v : Int32} (hj : j ≤ 17) (hn : n < j) (h : wU E b j x v) : v = nI (n + 1) ↔ wM E b x n := by
  rcases h with ⟨n', n1, n2, n3⟩ | ⟨h1, h2⟩
  · rw [n2]
    constructor
    · intro z
      have := (nI_eq (by omega) (by omega)).mp z
      rw [← show n' = n by omega]; exact n3
    · intro z
      rw [wM_u n3 z]
  · rw [h1]
    constructor
    · intro z
      have := (nI_eq (a := 0) (by omega) (by omega)).mp z
      omega
    · intro z; exact absurd z (h2 n hn)
theorem wU_0 {j x : Nat} {v : Int32} (hj : j ≤ 17) (h : wU E b j x v) : v = 0 ↔ ∀ n, n < j → ¬ wM E b x n := by
  rcases h with ⟨n', n1, n2, n3⟩ | ⟨h1, h2⟩
  · rw [n2]
    constructor
    · intro z
      have := (nI_eq (b := 0) (by omega) (by omega)).mp z
      omega
    · intro z; exact absurd n3 (z n' n1)
  · exact ⟨fun _ => h2, fun _ => h1⟩
theorem kc_findSteps {f : Nat} (hf : kf g h) (hb : b < 16) (hT : f + 256 ≤ 3072) (hE : ∀ x y, x < 16 → y < 16 → (E x y ↔ 0 < ka_I h 96 (f + (16 * x + y)))) (e : ∀ F, (∀ x, x < 16 → wU E b 17 x (F x)) → R (.inl none) (ka_sF h 101 F)) : kp_T (d + 1) 221 [.ref 72, .int (nI f), .int (nI b)] h R := by
  have fF : ∀ F, kf g (ka_sF h 101 F) := fun F => kf_F hf 101 rfl rfl
  have i96 : ∀ F k, ka_I (ka_sF h 101 F) (kq_p (ka_sF h 101 F) 72 41) k = ka_I h 96 k := fun F k => congrFun (ka_I_Fn h F (show (96 : Nat) ≠ 101 by decide)) k
  have i101 : ∀ F k, ka_I (ka_sF h 101 F) (kq_p (ka_sF h 101 F) 72 47) k = F k := fun F k => congrFun (ka_I_F h 101 F) k
  have ix : ∀ x y, nI f + Int32.ofInt 16 * nI x + nI y = nI (f + (16 * x + y)) := fun x y => by rw [Int32.add_assoc, nI_cJ, nI_add]
  have outer : ∀ m dd F, dd + m = 17 → 1 ≤ dd → (∀ x, x < 16 → wU E b dd x (F x)) → ∀ z4 z5, kq_ex g d 221 R 43 [.ref 72, .int (nI f), .int (nI b), .int (nI dd), z4, z5] [] (ka_sF h 101 F) := by
    intro m
    induction m with
    | zero =>
      intro dd F hd h1 hF z4 z5
      refine kq_seg (fun p => Nat.beq p 43) 10 ⟨fun _ => ?_, fun y => absurd y (nI_nlt (b := 17) (by omega) (by omega))⟩
      rw [show dd = 17 by omega] at hF
      exact e F hF
    | succ m ih =>
      intro dd F hd h1 hF z4 z5
      refine kq_seg (fun p => Nat.beq p 43 || Nat.beq p 52) 10 ⟨fun y => absurd (nI_lt (b := 17) (by omega) (by omega)) y, fun _ => ?_⟩
      have hd := kq_for (P := fun k => ∀ F z5, (∀ x, x < 16 → (x < k → wU E b (dd + 1) x (F x)) ∧ (k ≤ x → wU E b dd x (F x))) → kq_ex g d 221 R 52 [.ref 72, .int (nI f), .int (nI b), .int (nI dd), .int (nI k), z5] [] (ka_sF h 101 F)) 16 ?_ (fun k hk ihk F z5 hF => ?_)
      · exact hd F z5 (fun x hx => ⟨fun z => absurd z (Nat.not_lt_zero _), fun _ => hF x hx⟩)
      · intro F z5 hF
        refine kq_seg (fun p => Nat.beq p 43 || Nat.beq p 52) 20 ⟨fun _ => ?_, fun y => absurd y (nI_nlt (b := 16) (by omega) (by omega))⟩
        have := ih (dd + 1) F (by omega) (by omega) (fun x hx => (hF x hx).1 hx) (.int (nI 16)) z5
        rw [nI_succ] at this
        exact this
      · rw [nI_succ] at ihk
        have wk := (hF k hk).2 (Nat.le_refl _)
        have h0 := wU_0 (by omega) wk
        have j124 : ∀ F z5, (∀ x, x < 16 → (x < k + 1 → wU E b (dd + 1) x (F x)) ∧ (k + 1 ≤ x → wU E b dd x (F x))) → kq_ex g d 221 R 124 [.ref 72, .int (nI f), .int (nI b), .int (nI dd), .int (nI k), z5] [] (ka_sF h 101 F) := fun F z5 hF => kq_seg (fun p => Nat.beq p 52) 10 (ihk F z5 hF)
        refine kq_seg (fun p => Nat.beq p 52 || Nat.beq p 62) 10 ⟨fun y => absurd (nI_lt (b := 16) (by omega) (by omega)) y, fun _ => ?_⟩
        -- it stays as it is
        have same : (wM E b k dd → ¬ F k = 0) → ∀ z5, kq_ex g d 221 R 124 [.ref 72, .int (nI f), .int (nI b), .int (nI dd), .int (nI k), z5] [] (ka_sF h 101 F) := fun hs z5 => by
          refine j124 F z5 (fun x hx => ⟨fun z => ?_, fun z => (hF x hx).2 (by omega)⟩)
          rcases Nat.lt_or_ge x k with c | c
          · exact (hF x hx).1 c
          · rw [show x = k by omega]
            rcases wk with ⟨n, n1, n2, n3⟩ | ⟨n1, n2⟩
            · exact Or.inl ⟨n, by omega, n2, n3⟩
            · refine Or.inr ⟨n1, fun n hn hM => ?_⟩
              rcases Nat.lt_or_ge n dd with c | c
              · exact n2 n c hM
              · rw [show n = dd by omega] at hM
                exact hs hM n1
        have yl : ∀ m y, y + m = 16 → F k = 0 → (∀ y', y' < y → ¬ (E k y' ∧ wM E b y' (dd - 1))) → kq_ex g d 221 R 62 [.ref 72, .int (nI f), .int (nI b), .int (nI dd), .int (nI k), .int (nI y)] [] (ka_sF h 101 F) := by
          intro m
          induction m with
          | zero =>
            intro y hy hFk hno
            refine kq_seg (fun p => Nat.beq p 62 || Nat.beq p 124) 10 ⟨fun _ => ?_, fun y => absurd y (nI_nlt (b := 16) (by omega) (by omega))⟩
            refine same (fun hM => ?_) _
            obtain ⟨dd', rfl⟩ : ∃ dd', dd = dd' + 1 := ⟨dd - 1, by omega⟩
            have hM0 := hM
            obtain ⟨⟨t, t1, t2, t3⟩, -⟩ := hM0
            exact absurd ⟨t2, wM_dn hM t1 t2 t3⟩ (hno t (by omega))
          | succ m ihm =>
            intro y hy hFk hno
            have nx : ¬ (E k y ∧ wM E b y (dd - 1)) → kq_ex g d 221 R 118 [.ref 72, .int (nI f), .int (nI b), .int (nI dd), .int (nI k), .int (nI y)] [] (ka_sF h 101 F) := fun hn => by
              have := ihm (y + 1) (by omega) hFk (fun y' h' => by
                rcases Nat.lt_or_ge y' y with c | c
                · exact hno y' c
                · rw [show y' = y by omega]; exact hn)
              rw [nI_succ] at this
              exact kq_seg (fun p => Nat.beq p 62) 10 this
            refine kq_seg (fun p => Nat.beq p 62 || Nat.beq p 118 || Nat.beq p 124) 60 ⟨fun y => absurd (nI_lt (b := 16) (by omega) (by omega)) y, fun _ => ⟨nI_in (N := 16) hk (by omega), ?_⟩⟩
            rw [nI_clamp (by omega), i101]
            refine ⟨fun z => absurd hFk z, fun _ => ⟨nI_in (N := 16) (by omega) (by omega), ?_⟩⟩
            rw [nI_clamp (by omega), i101]
            have hy1 : F y = nI dd ↔ wM E b y (dd - 1) := by
              have hyy := hF y (by omega)
              rcases Nat.lt_or_ge y k with c | c
              · have := wU_is (n := dd - 1) (by omega) (by omega) (hyy.1 c)
                rw [show dd - 1 + 1 = dd by omega] at this
                exact this
              · have := wU_is (n := dd - 1) (by omega) (by omega) (hyy.2 c)
                rw [show dd - 1 + 1 = dd by omega] at this
                exact this
            refine ⟨fun z => nx (fun u => z (hy1.mpr u.2)), fun z => ⟨by rw [ix]; exact nI_in (N := 3072) (by omega) (by omega), ?_⟩⟩
            rw [ix, nI_clamp (by omega), i96]
            refine ⟨fun z2 => nx (fun u => z2 ((hE k y hk (by omega)).mp u.1)), fun z2 => ⟨nI_in (N := 16) hk (by omega), ?_⟩⟩
            have hEy : E k y := (hE k y hk (by omega)).mpr z2
            have hMy := hy1.mp z
            have hM : wM E b k dd := by
              have hr := wM_r hMy
              rw [show dd - 1 + 1 = dd by omega] at hr
              refine ⟨⟨y, by omega, hEy, hr⟩, fun t t1 t2 m' hm' hr' => ?_⟩
              obtain ⟨n, n1, n2⟩ := wM_ex m' ⟨t, t1, t2, hr'⟩
              exact h0.mp hFk n (by omega) n2
            rw [nI_clamp (by omega), show nI dd + Int32.ofInt 1 = nI (dd + 1) from (nI_succ dd).symm, show kq_p (ka_sF h 101 F) 72 47 = 101 from rfl, ka_sI_F]
            -- the rest of the ys is passed over
            have hF' : ∀ x, x < 16 → (x < k + 1 → wU E b (dd + 1) x (kh_u F k (nI (dd + 1)) x)) ∧ (k + 1 ≤ x → wU E b dd x (kh_u F k (nI (dd + 1)) x)) := fun x hx => ⟨fun z => by
              by_cases c : x = k
              · rw [c, kh_uS]
                exact Or.inl ⟨dd, by omega, rfl, hM⟩
              · rw [kh_uN _ _ c]
                exact (hF x hx).1 (by omega), fun z => by
              rw [kh_uN _ _ (by omega)]
              exact (hF x hx).2 (by omega)⟩
            have j62' : ∀ z, z = y + 1 → kq_ex g d 221 R 62 [.ref 72, .int (nI f), .int (nI b), .int (nI dd), .int (nI k), .int (nI z)] [] (ka_sF h 101 (kh_u F k (nI (dd + 1)))) := fun z hz => by
              refine kq_seg (fun p => Nat.beq p 62 || Nat.beq p 118 || Nat.beq p 124) 20 ⟨fun _ => j124 _ _ hF', fun _ => ⟨nI_in (N := 16) hk (by omega), ?_⟩⟩
              rw [nI_clamp (by omega), i101, kh_uS]
              exact ⟨fun _ => j124 _ _ hF', fun u => absurd ((nI_eq (b := 0) (by omega) (by omega)).mp u) (by omega)⟩
            have := j62' (y + 1) rfl
            rw [nI_succ] at this
            exact kq_seg (fun p => Nat.beq p 62) 10 this
        by_cases c : F k = 0
        · exact yl 16 0 rfl c (fun y' h' => absurd h' (Nat.not_lt_zero _))
        · refine (kq_seg (fun p => Nat.beq p 62 || Nat.beq p 118 || Nat.beq p 124) 20 ⟨fun y => absurd (nI_lt (a := 0) (b := 16) (by omega) (by omega)) y, fun _ => ⟨nI_in (N := 16) hk (by omega), ?_⟩⟩ : kq_ex g d 221 R 62 [.ref 72, .int (nI f), .int (nI b), .int (nI dd), .int (nI k), .int (nI 0)] [] (ka_sF h 101 F))
          rw [nI_clamp (by omega), i101]
          exact ⟨fun _ => same (fun _ => c) _, fun z => absurd z c⟩
  refine kq_in hf rfl rfl rfl (kq_seg (fun p => Nat.beq p 2) 4 ?_)
  have hd := kq_for (P := fun k => ∀ F, (∀ x, x < k → wU E b 1 x (F x)) → kq_ex g d 221 R 2 [.ref 72, .int (nI f), .int (nI b), .int (nI k), .retAddr 0, .retAddr 0] [] (ka_sF h 101 F)) 16 ?_ (fun k hk ih F hF => ?_)
  · have := hd (ka_I h 101) (fun x hx => absurd hx (Nat.not_lt_zero _))
    rw [ka_sF_eta] at this
    exact this
  · intro F hF
    refine kq_seg (fun p => Nat.beq p 2 || Nat.beq p 43) 10 ⟨fun _ => ?_, fun y => absurd y (nI_nlt (b := 16) (by omega) (by omega))⟩
    exact outer 16 1 F rfl (Nat.le_refl _) hF _ _
  · rw [nI_succ] at ih
    refine kq_seg (fun p => Nat.beq p 2) 40 ⟨fun y => absurd (nI_lt (b := 16) hk (by omega)) y, fun _ => ⟨by rw [ix]; exact nI_in (N := 3072) (by omega) (by omega), ?_⟩⟩
    rw [ix, nI_clamp (by omega), i96]
    have st : ∀ v, wU E b 1 k v → kq_ex g d 221 R 2 [.ref 72, .int (nI f), .int (nI b), .int (nI k + 1), .retAddr 0, .retAddr 0] [] (ka_sI (ka_sF h 101 F) 101 k v) := fun v hv => by
      rw [ka_sI_F]
      exact ih _ (fun x hx => by
        by_cases c : x = k
        · rw [c, kh_uS]; exact hv
        · rw [kh_uN _ _ c]; exact hF x (by omega))
    refine ⟨fun y => ⟨nI_in (N := 16) hk (by omega), ?_⟩, fun y => ⟨nI_in (N := 16) hk (by omega), ?_⟩⟩
    · rw [nI_clamp (by omega)]
      refine st 0 (Or.inr ⟨rfl, fun n hn hM => ?_⟩)
      rw [show n = 0 by omega] at hM
      exact y ((hE k b hk hb).mp ((wM_0 hb).mp hM))
    · rw [nI_clamp (by omega)]
      exact st 1 (Or.inl ⟨0, by omega, rfl, (wM_0 hb).mpr ((hE k b hk hb).mpr y)⟩)
end WX

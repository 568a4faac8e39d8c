/-! ===== count ===== -/
theorem kNum_ext {p : Nat → Bool} {n : Nat} : ∀ m, n ≤ m → (∀ k, n ≤ k → k < m → p k = false) → kNum p m = kNum p n
  | 0, h, _ => by rw [show n = 0 by omega]
  | m + 1, h, hp => by
    rcases Nat.eq_or_lt_of_le h with z | z
    · rw [z]
    · show kNum p m + (if p m = true then 1 else 0) = _
      rw [hp m (by omega) (by omega), kNum_ext m (by omega) (fun k h1 h2 => hp k h1 (by omega))]
      rfl
theorem kNum_s {p : Nat → Bool} {n : Nat} {b : Int32} (e : b = bI (p n)) : nI (kNum p n) + b = nI (kNum p (n + 1)) := by
  rw [e]
  show _ = nI (kNum p n + (if p n = true then 1 else 0))
  rw [← nI_add]
  cases p n <;> rfl
theorem kq_sw_no {a : Int32} {k : Nat → Prop} {dd : Nat} : ∀ (ts : List Nat) (lo : Nat), (∀ i, i < ts.length → ¬ a = nI (lo + i)) → k dd → ka_sw a k dd (nI lo) ts
  | [], _, _, h => h
  | t :: ts, lo, hn, h => ⟨fun e => absurd e (hn 0 (by simp)), fun _ => by
      have := kq_sw_no (k := k) (dd := dd) ts (lo + 1) (fun i hi => by
        have := hn (i + 1) (by simp; omega)
        rw [show lo + (i + 1) = lo + 1 + i by omega] at this
        exact this) h
      rw [nI_succ] at this
      exact this⟩
theorem kq_tswN {g : Nat × (Nat → Int32)} {d m pc lo len dd : Nat} {v : Int32} {df lo' hi : Int} {tg : Array Int} {tl : List Nat} {R : ka_R → ka_H → Prop} {L S : List Value} {h : ka_H} (hcd : ka_cd m pc = some (.tableswitch df lo' hi tg, len, dd :: tl)) (hlo : Int32.ofInt lo' = nI lo) (hn : ∀ i, i < tl.length → ¬ v = nI (lo + i)) (hk : kq_ex g d m R dd L S h) : kq_ex g d m R pc L (.int v :: S) h := by
  refine kq_seg (fun _ => true) 1 ?_
  unfold kq_wp
  rw [hcd]
  show ka_sw v _ dd (Int32.ofInt lo') tl
  rw [hlo]
  exact kq_sw_no (k := fun t => kq_ex g d m R t L S h) tl lo hn hk
section CO
variable {g : Nat × (Nat → Int32)} {d : Nat} {h : ka_H} {R : ka_R → ka_H → Prop} {L : kAl} {Q : kAq} {sb qb st : Nat → Nat} {c : Nat} {r : kAr}
theorem kc_toldLate (hf : kf g h) (q : kcl L h) (hn : lNn L ≤ 400) : kp_T (d + 1) 31 [.ref 2] h (kp_is (.int (kp_sum (lLa L) (lNn L))) h) := by
  have main : ∀ m k, k + m = lNn L → kq_ex g d 31 (kp_is (.int (kp_sum (lLa L) (lNn L))) h) 4 [.ref 2, .int (kp_sum (lLa L) k), .int (nI k)] [] h := by
    intro m
    induction m with
    | zero =>
      intro k hk
      refine kq_seg (fun p => Nat.beq p 4) 40 ⟨fun _ => ⟨trivial, ?_, rfl⟩, fun y => ?_⟩
      · rw [show k = lNn L by omega]
      · have y' : nI k < nI (lNn L) := by rw [← q.1]; exact y
        exact absurd y' (nI_nlt (by omega) (by omega))
    | succ m ih =>
      intro k hk
      refine kq_seg (fun p => Nat.beq p 4) 40 ⟨fun y => absurd (show nI k < ka_I h 2 6 by rw [q.1]; exact nI_lt (by omega) (by omega)) y, fun _ => ⟨nI_in (N := 400) (by omega) (by omega), ?_⟩⟩
      rw [nI_clamp (by omega), show ka_I h (kq_p h 2 4) k = _ from (q.2.2.2.1 k (by omega)).2.2.2.2]
      have := ih (k + 1) (by omega)
      rw [nI_succ] at this
      exact this
  refine kq_in hf rfl rfl rfl (kq_seg (fun p => Nat.beq p 4) 10 ?_)
  exact main _ 0 (Nat.zero_add _)
theorem kc_notLeft (hf : kf g h) (w : kcq L Q sb qb st h) (w6 : qQ Q ≤ 6) : kp_T (d + 1) 123 [.ref 1] h (kp_is (.int (nI (kNum (fun q => !qLf Q q) (qQ Q)))) h) := by
  obtain ⟨-, -, -, -, -, p69, cq, -⟩ := w
  have hK1 : (ka_K h 1).1 = 8 := kK hf rfl rfl
  have hK69 : (ka_K h (kq_p h 1 5)).1 = 35 := kK hf (a := 69) rfl rfl
  have hZ69 : (ka_K h (kq_p h 1 5)).2 = 6 := kZ hf (a := 69) rfl rfl
  rw [← kNum_cg (p := fun q => decide (q < qQ Q) && !qLf Q q) (qQ Q) (fun k hk => by rw [decide_eq_true hk]; rfl), ← kNum_ext (p := fun q => decide (q < qQ Q) && !qLf Q q) 6 w6 (fun k h1 _ => by rw [decide_eq_false (by omega)]; rfl)]
  generalize hp : (fun q => decide (q < qQ Q) && !qLf Q q) = p
  have main : ∀ m k, k + m = 6 → kd_ex g d 123 (kp_is (.int (nI (kNum p 6))) h) 4 [.ref 1, .int (nI (kNum p k)), .int (nI k)] [] h := by
    intro m
    induction m with
    | zero =>
      intro k hk
      refine kd_seg (fun p => Nat.beq p 4) 40 ⟨hK1, ⟨by rw [hK69]; decide, ?_⟩⟩
      rw [hZ69]
      refine ⟨fun _ => ⟨trivial, ?_, rfl⟩, fun y => absurd y (nI_nlt (b := 6) (by omega) (by omega))⟩
      rw [show k = 6 by omega]
    | succ m ih =>
      intro k hk
      have nx : ∀ b : Int32, b = bI (p k) → kd_ex g d 123 (kp_is (.int (nI (kNum p 6))) h) 40 [.ref 1, .int (nI (kNum p k)), .int (nI k)] [.int b, .int (nI (kNum p k))] h := fun b hb => by
        refine kd_seg (fun p => Nat.beq p 4) 10 ?_
        have := ih (k + 1) (by omega)
        rw [nI_succ, ← kNum_s hb] at this
        exact this
      have hpk : p k = (decide (k < qQ Q) && !qLf Q k) := by rw [← hp]
      have h69 : ka_P h (kq_p h 1 5) k = if k < qQ Q then qb k else 0 := p69 k (by omega)
      have hin : 34 ≤ (ka_K h (kq_p h 1 5)).1 ∧ (ka_K h (kq_p h 1 5)).1 ≤ 38 ∧ vp_in (nI k) (ka_K h (kq_p h 1 5)).2 := ⟨by rw [hK69]; decide, by rw [hK69]; decide, by rw [hZ69]; exact nI_in (N := 6) (by omega) (by omega)⟩
      refine kd_seg (fun p => Nat.beq p 4 || Nat.beq p 40) 40 ⟨hK1, ⟨by rw [hK69]; decide, ?_⟩⟩
      rw [hZ69]
      refine ⟨fun y => absurd (nI_lt (b := 6) (by omega) (by omega)) y, fun _ => ⟨hK1, ⟨hin, ?_⟩⟩⟩
      rw [nI_clamp (by omega), h69]
      by_cases z : k < qQ Q
      · rw [if_pos z]
        have c1 := cq k z
        refine ⟨fun y => absurd y (show ¬ qb k = 0 by have := c1.1.1; omega), fun _ => ⟨hK1, ⟨hin, ?_⟩⟩⟩
        rw [nI_clamp (by omega), h69, if_pos z]
        refine ⟨by rw [c1.1.2.2.1], ?_⟩
        rw [c1.2.1]
        refine ⟨fun y => nx 0 ?_, fun y => nx 1 ?_⟩
        · have : qLf Q k = true := by
            cases hl : qLf Q k with
            | true => rfl
            | false => rw [hl] at y; exact absurd rfl y
          rw [hpk, this, Bool.not_true, Bool.and_false]; rfl
        · rw [hpk, bI_0.mp y, decide_eq_true z]; rfl
      · rw [if_neg z]
        refine ⟨fun _ => nx 0 ?_, fun y => absurd rfl y⟩
        rw [hpk, decide_eq_false z]; rfl
  refine kd_in hf rfl rfl rfl (kd_seg (fun p => Nat.beq p 4) 10 ?_)
  exact main _ 0 (Nat.zero_add _)
theorem kc_shelvesAre (hf : kf g h) (w : kcq L Q sb qb st h) (w6 : qN Q ≤ 72) (wQ : qQ Q ≤ 6) : kp_T (d + 1) 124 [.ref 1] h (kp_is (.int (nI (kNum (qLv Q) (qN Q)))) h) := by
  obtain ⟨-, -, -, p68, cs, -⟩ := w
  have hK1 : (ka_K h 1).1 = 8 := kK hf rfl rfl
  have hK68 : (ka_K h (kq_p h 1 4)).1 = 34 := kK hf (a := 68) rfl rfl
  have hZ68 : (ka_K h (kq_p h 1 4)).2 = 72 := kZ hf (a := 68) rfl rfl
  rw [← kNum_cg (p := fun q => decide (q < qN Q) && qLv Q q) (qN Q) (fun k hk => by rw [decide_eq_true hk]; rfl), ← kNum_ext (p := fun q => decide (q < qN Q) && qLv Q q) 72 w6 (fun k h1 _ => by rw [decide_eq_false (by omega)]; rfl)]
  generalize hp : (fun q => decide (q < qN Q) && qLv Q q) = p
  have main : ∀ m k, k + m = 72 → kd_ex g d 124 (kp_is (.int (nI (kNum p 72))) h) 4 [.ref 1, .int (nI (kNum p k)), .int (nI k)] [] h := by
    intro m
    induction m with
    | zero =>
      intro k hk
      refine kd_seg (fun p => Nat.beq p 4) 40 ⟨hK1, ⟨by rw [hK68]; decide, ?_⟩⟩
      rw [hZ68]
      refine ⟨fun _ => ⟨trivial, ?_, rfl⟩, fun y => absurd y (nI_nlt (b := 72) (by omega) (by omega))⟩
      rw [show k = 72 by omega]
    | succ m ih =>
      intro k hk
      have nx : ∀ b : Int32, b = bI (p k) → kd_ex g d 124 (kp_is (.int (nI (kNum p 72))) h) 40 [.ref 1, .int (nI (kNum p k)), .int (nI k)] [.int b, .int (nI (kNum p k))] h := fun b hb => by
        refine kd_seg (fun p => Nat.beq p 4) 10 ?_
        have := ih (k + 1) (by omega)
        rw [nI_succ, ← kNum_s hb] at this
        exact this
      have hpk : p k = (decide (k < qN Q) && qLv Q k) := by rw [← hp]
      have h68 : ka_P h (kq_p h 1 4) k = if k < qN Q then sb k else 0 := p68 k (by omega)
      have hin : 34 ≤ (ka_K h (kq_p h 1 4)).1 ∧ (ka_K h (kq_p h 1 4)).1 ≤ 38 ∧ vp_in (nI k) (ka_K h (kq_p h 1 4)).2 := ⟨by rw [hK68]; decide, by rw [hK68]; decide, by rw [hZ68]; exact nI_in (N := 72) (by omega) (by omega)⟩
      refine kd_seg (fun p => Nat.beq p 4 || Nat.beq p 40) 40 ⟨hK1, ⟨by rw [hK68]; decide, ?_⟩⟩
      rw [hZ68]
      refine ⟨fun y => absurd (nI_lt (b := 72) (by omega) (by omega)) y, fun _ => ⟨hK1, ⟨hin, ?_⟩⟩⟩
      rw [nI_clamp (by omega), h68]
      by_cases z : k < qN Q
      · rw [if_pos z]
        have c1 := cs k z
        have hc6 : qC Q k < 2 ^ 31 := by
          have := kNum_le (qU Q k) (qQ Q)
          unfold qC
          omega
        refine ⟨fun y => absurd y c1.ne, fun _ => ⟨hK1, ⟨hin, ?_⟩⟩⟩
        rw [nI_clamp (by omega), h68, if_pos z]
        refine ⟨c1.K, ?_⟩
        rw [c1.2.2.1]
        refine ⟨fun y => nx 0 ?_, fun y => nx 1 ?_⟩
        · have : qLv Q k = false := by
            cases hl : qLv Q k with
            | false => rfl
            | true => exact absurd (nI_lt (a := 0) (of_decide_eq_true hl) hc6) y
          rw [hpk, this, Bool.and_false]; rfl
        · have : qLv Q k = true := decide_eq_true ((nI_ltI (a := 0) (by omega) hc6).mp y)
          rw [hpk, this, decide_eq_true z]; rfl
      · rw [if_neg z]
        refine ⟨fun _ => nx 0 ?_, fun y => absurd rfl y⟩
        rw [hpk, decide_eq_false z]; rfl
  refine kd_in hf rfl rfl rfl (kd_seg (fun p => Nat.beq p 4) 10 ?_)
  exact main _ 0 (Nat.zero_add _)
theorem kc_readersHold (hf : kf g h) (q : kcr r h) (w : kWr r) : kp_T (d + 1) 125 [.ref 1] h (kp_is (.int (nI (kNum (fun k => !rG r k) (rN r)))) h) := by
  have w8 := w.1
  have main : ∀ m k, k + m = rN r → kq_ex g d 125 (kp_is (.int (nI (kNum (fun k => !rG r k) (rN r)))) h) 4 [.ref 1, .int (nI (kNum (fun k => !rG r k) k)), .int (nI k)] [] h := by
    intro m
    induction m with
    | zero =>
      intro k hk
      refine kq_seg (fun p => Nat.beq p 4) 40 ⟨fun _ => ⟨trivial, ?_, rfl⟩, fun y => ?_⟩
      · rw [show k = rN r by omega]
      · have y' : nI k < nI (rN r) := by rw [← q.1]; exact y
        exact absurd y' (nI_nlt (by omega) (by omega))
    | succ m ih =>
      intro k hk
      obtain ⟨r1, r2⟩ := rE_eq w (k := k) (by omega)
      have nx : ∀ b : Int32, b = bI (!rG r k) → kq_ex g d 125 (kp_is (.int (nI (kNum (fun k => !rG r k) (rN r)))) h) 37 [.ref 1, .int (nI (kNum (fun k => !rG r k) k)), .int (nI k)] [.int b, .int (nI (kNum (fun k => !rG r k) k))] h := fun b hb => by
        refine kq_seg (fun p => Nat.beq p 4) 10 ?_
        have := ih (k + 1) (by omega)
        rw [nI_succ, ← kNum_s (p := fun k => !rG r k) hb] at this
        exact this
      refine kq_seg (fun p => Nat.beq p 4 || Nat.beq p 37) 40 ⟨fun y => absurd (show nI k < ka_I h 1 10 by rw [q.1]; exact nI_lt (by omega) (by omega)) y, fun _ => ⟨fun y => absurd (nI_lt (b := 8) (by omega) (by omega)) y, fun _ => ⟨nI_in (N := 8) (by omega) (by omega), ?_⟩⟩⟩
      rw [nI_clamp (by omega), show ka_I h (kq_p h 1 6) k = _ from q.2 k (by omega), r1]
      cases hg : rG r k with
      | true => exact ⟨fun _ => nx 0 (by rw [hg]; rfl), fun y => absurd rfl y⟩
      | false => exact ⟨fun y => absurd y (nI_ne_m1 (by omega)), fun _ => nx 1 (by rw [hg]; rfl)⟩
  refine kq_in hf rfl rfl rfl (kq_seg (fun p => Nat.beq p 4) 10 ?_)
  exact main _ 0 (Nat.zero_add _)
end CO

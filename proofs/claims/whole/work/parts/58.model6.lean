/-! ===== the reference: loops; the code of a condition ===== -/
def kR (L : Nat → Int32) : Nat → Int32 := fun r => if bt (L (r / 16)) (r % 16) = true then 1 else 0
theorem kR_v (L : Nat → Int32) {x z : Nat} (hz : z < 16) : kR L (16 * x + z) = if bt (L x) z = true then 1 else 0 := by
  unfold kR
  rw [show (16 * x + z) / 16 = x by omega, show (16 * x + z) % 16 = z by omega]
theorem kh_u_id (L : Nat → Int32) (x : Nat) : kh_u L x (L x) = L := by
  funext j
  unfold kh_u
  by_cases e : j = x
  · rw [if_pos e, e]
  · rw [if_neg e]
theorem nI_dec {n : Nat} (h : 1 ≤ n) : nI n + Int32.ofInt (-1) = nI (n - 1) := by
  obtain ⟨m, rfl⟩ : ∃ m, n = m + 1 := ⟨n - 1, by omega⟩
  rw [nI_succ, Int32.add_assoc, show (1 : Int32) + Int32.ofInt (-1) = 0 by decide, Int32.add_zero, Nat.add_sub_cancel]
theorem nI_m1 {n : Nat} (h : 1 ≤ n) : nI n - Int32.ofInt 1 = nI (n - 1) := nI_sub (b := 1) h
def kv_c2 (v x y : Int32) : Int32 := if v = 100 then kp_b (x < y) else if v = 101 then kp_b (y < x) else if v = 102 then kp_b (x = y) else if v = 103 then kp_b (0 < x + y) else kp_b (x * y = 1)
def kv_x1 (a b : Nat) (v : Int32) (p : Nat × (Nat → Int32)) : Option (Nat × (Nat → Int32)) :=
  if v < 100 then (if p.1 < 100 then some (p.1 + 1, kh_u p.2 p.1 (if v = 20 then nI a else if v = 21 then nI b else v)) else none)
  else if v = 105 then (if 1 ≤ p.1 ∧ p.1 ≤ 100 then some (p.1, kh_u p.2 (p.1 - 1) (1 - p.2 (p.1 - 1))) else none)
  else (if 2 ≤ p.1 ∧ p.1 ≤ 100 then some (p.1 - 1, kh_u p.2 (p.1 - 2) (kv_c2 v (p.2 (p.1 - 2)) (p.2 (p.1 - 1)))) else none)
def kv_xl (a b : Nat) : List Int32 → (Nat × (Nat → Int32)) → Option (Nat × (Nat → Int32))
  | [], p => some p
  | v :: l, p => match kv_x1 a b v p with
    | some p' => kv_xl a b l p'
    | none => none
section M6
variable {g : Nat × (Nat → Int32)} {d : Nat} {h : ka_H} {R : ka_R → ka_H → Prop}
theorem kc_loops (hf : kf g h) {f t : Nat} (hT : t + 256 ≤ 3072) (hne : f + 256 ≤ t)
    (e : R (.inl none) (ka_sF h 96 (kh_b (ka_I h 96) t (kR (kx_ext (kx_0 (fun r => ka_I h 96 (f + r))) 16)) 256))) : kp_T (d + 1) 205 [.ref 72, .int (nI f), .int (nI t)] h R := by
  have hin : ∀ k, k < 256 → vp_in (nI t + nI k) 3072 := fun k hk => by rw [nI_add]; exact nI_in (N := 3072) (by omega) (by omega)
  have hin2 : ∀ x z, x < 16 → z < 16 → vp_in (nI t + Int32.ofInt 16 * nI x + nI z) 3072 := fun x z hx hz => by rw [nI_16m, nI_add, nI_add]; exact nI_in (N := 3072) (by omega) (by omega)
  have hcl2 : ∀ x z, x < 16 → z < 16 → (nI t + Int32.ofInt 16 * nI x + nI z).toNatClampNeg = t + 16 * x + z := fun x z hx hz => by rw [nI_16m, nI_add, nI_add, nI_clamp (by omega)]
  have zloop : ∀ L y x, y < 16 → x < 16 → (∀ z5, kq_ex g d 205 R 50 [.ref 72, .int (nI f), .int (nI t), .int (nI y), .int (nI (x + 1)), z5] [] (ka_sF h 96 (kh_b (ka_I h 96) t (kR (kh_u L x (L x ||| (if bt (L x) y = true then L y else 0)))) 256))) →
      kq_ex g d 205 R 60 [.ref 72, .int (nI f), .int (nI t), .int (nI y), .int (nI x), .int (nI 0)] [] (ka_sF h 96 (kh_b (ka_I h 96) t (kR L) 256)) := by
    intro L y x hy hx out
    rw [nI_succ] at out
    by_cases hb : bt (L x) y = true
    · rw [if_pos hb] at out
      have hval : ∀ n x' c', x' < 16 → c' < 16 → kh_b (kh_b (ka_I h 96) t (kR L) 256) (t + 16 * x) (fun z => kR (kh_u L x (L x ||| L y)) (16 * x + z)) n (t + 16 * x' + c') = if x' = x ∧ c' < n ∧ n ≤ 16 then kR (kh_u L x (L x ||| L y)) (16 * x + c') else if n ≤ 16 then kR L (16 * x' + c') else kh_b (kh_b (ka_I h 96) t (kR L) 256) (t + 16 * x) (fun z => kR (kh_u L x (L x ||| L y)) (16 * x + z)) n (t + 16 * x' + c') := by
        intro n x' c' hx' hc'
        by_cases hn : n ≤ 16
        · by_cases c : x' = x ∧ c' < n
          · rw [if_pos ⟨c.1, c.2, hn⟩, c.1, kh_b_T _ _ _ c.2]
          · rw [if_neg (fun z => c ⟨z.1, z.2.1⟩), if_pos hn, kh_b_F _ _ _ (by omega), show t + 16 * x' + c' = t + (16 * x' + c') by omega, kh_b_T _ _ _ (by omega)]
        · rw [if_neg (by omega), if_neg hn]
      have hd := kq_for (P := fun z => kq_ex g d 205 R 60 [.ref 72, .int (nI f), .int (nI t), .int (nI y), .int (nI x), .int (nI z)] [] (ka_sF h 96 (kh_b (kh_b (ka_I h 96) t (kR L) 256) (t + 16 * x) (fun z => kR (kh_u L x (L x ||| L y)) (16 * x + z)) z))) 16 ?_ (fun z hz ih => ?_)
      · rw [kh_b_0] at hd
        exact hd
      · refine kq_seg (fun p => Nat.beq p 50) 40 ⟨fun _ => ?_, fun c => absurd c (nI_nlt (b := 16) (by omega) (by omega))⟩
        rw [show kh_b (kh_b (ka_I h 96) t (kR L) 256) (t + 16 * x) (fun z => kR (kh_u L x (L x ||| L y)) (16 * x + z)) 16 = kh_b (ka_I h 96) t (kR (kh_u L x (L x ||| L y))) 256 by
          funext j
          by_cases c : t ≤ j ∧ j < t + 256
          · obtain ⟨r, rfl⟩ : ∃ r, j = t + r := ⟨j - t, by omega⟩
            rw [kh_b_T _ _ _ (by omega)]
            by_cases c2 : r / 16 = x
            · rw [show t + r = t + 16 * x + r % 16 by omega, kh_b_T _ _ _ (by omega), show 16 * x + r % 16 = r by omega]
            · rw [kh_b_F _ _ _ (by omega), kh_b_T _ _ _ (by omega)]
              unfold kR kh_u
              rw [if_neg c2]
          · rw [kh_b_F _ _ _ (by omega), kh_b_F _ _ _ c, kh_b_F _ _ _ c]]
        exact out _
      · refine kq_seg (fun p => Nat.beq p 60) 60 ⟨fun c => absurd (nI_lt (b := 16) hz (by omega)) c, fun _ => ⟨hin2 x y hx hy, ?_⟩⟩
        rw [hcl2 x y hx hy]
        refine ⟨fun (c : ¬ ka_I (ka_sF h 96 _) 96 (t + 16 * x + y) = 1) => ?_, fun _ => ⟨hin2 y z hy hz, ?_⟩⟩
        · exfalso
          rw [ka_I_F, hval z x y hx hy] at c
          refine c ?_
          split
          · rw [kR_v _ hy, show kh_u L x (L x ||| L y) x = L x ||| L y from if_pos rfl, b_or, hb, Bool.true_or, if_pos rfl]
          · rw [if_pos (by omega), kR_v _ hy, if_pos hb]
        · rw [hcl2 y z hy hz]
          have hyz : ka_I (ka_sF h 96 (kh_b (kh_b (ka_I h 96) t (kR L) 256) (t + 16 * x) (fun z => kR (kh_u L x (L x ||| L y)) (16 * x + z)) z)) 96 (t + 16 * y + z) = if bt (L y) z = true then 1 else 0 := by
            rw [ka_I_F, hval z y z hy hz, if_neg (fun q => Nat.lt_irrefl z q.2.1), if_pos (by omega), kR_v _ hz]
          have hnew : kR (kh_u L x (L x ||| L y)) (16 * x + z) = if bt (L x) z = true ∨ bt (L y) z = true then 1 else 0 := by
            rw [kR_v _ hz, show kh_u L x (L x ||| L y) x = L x ||| L y from if_pos rfl, b_or]
            simp only [Bool.or_eq_true]
          rw [nI_succ] at ih
          refine ⟨fun (c : ¬ ka_I (ka_sF h 96 _) 96 (t + 16 * y + z) = 1) => ?_, fun (c : ka_I (ka_sF h 96 _) 96 (t + 16 * y + z) = 1) => ⟨hin2 x z hx hz, ?_⟩⟩
          · rw [hyz] at c
            have hz0 : ¬ bt (L y) z = true := fun q => c (if_pos q)
            rw [← kh_b_s (n := z) (x := kR L (16 * x + z)) _ _ _ (by
              show kR (kh_u L x (L x ||| L y)) (16 * x + z) = _
              rw [hnew, kR_v _ hz]
              simp only [hz0, or_false, Bool.false_eq_true])] at ih
            rw [show kh_u (kh_b (kh_b (ka_I h 96) t (kR L) 256) (t + 16 * x) (fun z => kR (kh_u L x (L x ||| L y)) (16 * x + z)) z) (t + 16 * x + z) (kR L (16 * x + z)) = kh_b (kh_b (ka_I h 96) t (kR L) 256) (t + 16 * x) (fun z => kR (kh_u L x (L x ||| L y)) (16 * x + z)) z by
              have := kh_u_id (kh_b (kh_b (ka_I h 96) t (kR L) 256) (t + 16 * x) (fun z => kR (kh_u L x (L x ||| L y)) (16 * x + z)) z) (t + 16 * x + z)
              rw [hval z x z hx hz, if_neg (fun q => Nat.lt_irrefl z q.2.1), if_pos (by omega)] at this
              exact this] at ih
            exact ih
          · rw [hyz] at c
            have hz1 : bt (L y) z = true := Classical.byContradiction fun q => by rw [if_neg q] at c; exact absurd c (by decide)
            rw [hcl2 x z hx hz]
            rw [← kh_b_s (n := z) (x := 1) _ _ _ (by
              show kR (kh_u L x (L x ||| L y)) (16 * x + z) = _
              rw [hnew, if_pos (Or.inr hz1)]), ← ka_sI_F] at ih
            exact ih
    · rw [if_neg hb, b_or0, kh_u_id] at out
      refine kq_seg (fun p => Nat.beq p 50) 60 ⟨fun c => absurd (nI_lt (a := 0) (b := 16) (by omega) (by omega)) c, fun _ => ⟨hin2 x y hx hy, ?_⟩⟩
      rw [hcl2 x y hx hy]
      refine ⟨fun _ => out _, fun (c : ka_I (ka_sF h 96 _) 96 (t + 16 * x + y) = 1) => ?_⟩
      exfalso
      rw [ka_I_F, show t + 16 * x + y = t + (16 * x + y) by omega, kh_b_T _ _ _ (by omega), kR_v _ hy, if_neg hb] at c
      exact absurd c (by decide)
  have xloop : ∀ L y, y < 16 → (∀ z4 z5, kq_ex g d 205 R 41 [.ref 72, .int (nI f), .int (nI t), .int (nI (y + 1)), z4, z5] [] (ka_sF h 96 (kh_b (ka_I h 96) t (kR (kx_in y L 16)) 256))) →
      ∀ z5, kq_ex g d 205 R 50 [.ref 72, .int (nI f), .int (nI t), .int (nI y), .int (nI 0), z5] [] (ka_sF h 96 (kh_b (ka_I h 96) t (kR L) 256)) := by
    intro L y hy out
    rw [nI_succ] at out
    refine kq_for (P := fun x => ∀ z5, kq_ex g d 205 R 50 [.ref 72, .int (nI f), .int (nI t), .int (nI y), .int (nI x), z5] [] (ka_sF h 96 (kh_b (ka_I h 96) t (kR (kx_in y L x)) 256))) 16 ?_ (fun x hx ih z5 => ?_)
    · intro z5
      exact kq_seg (fun p => Nat.beq p 41) 20 ⟨fun _ => out _ _, fun c => absurd c (nI_nlt (b := 16) (by omega) (by omega))⟩
    · refine kq_seg (fun p => Nat.beq p 60) 20 ⟨fun c => absurd (nI_lt (b := 16) hx (by omega)) c, fun _ => ?_⟩
      exact zloop _ y x hy hx ih
  have j39 : ∀ z3 z4 z5, kq_ex g d 205 R 39 [.ref 72, .int (nI f), .int (nI t), z3, z4, z5] [] (ka_sF h 96 (kh_b (ka_I h 96) t (kR (kx_0 (fun r => ka_I h 96 (f + r)))) 256)) := by
    intro z3 z4 z5
    refine kq_seg (fun p => Nat.beq p 41) 4 ?_
    refine kq_for (P := fun y => ∀ z4 z5, kq_ex g d 205 R 41 [.ref 72, .int (nI f), .int (nI t), .int (nI y), z4, z5] [] (ka_sF h 96 (kh_b (ka_I h 96) t (kR (kx_ext (kx_0 (fun r => ka_I h 96 (f + r))) y)) 256))) 16 ?_ (fun y hy ih z4 z5 => ?_) _ _
    · intro z4 z5
      exact kq_seg (fun p => Nat.beq p 41) 20 ⟨fun _ => e, fun c => absurd c (nI_nlt (b := 16) (by omega) (by omega))⟩
    · refine kq_seg (fun p => Nat.beq p 50) 20 ⟨fun c => absurd (nI_lt (b := 16) hy (by omega)) c, fun _ => ?_⟩
      exact xloop _ y hy ih _
  refine kq_in hf rfl rfl rfl (kq_seg (fun p => Nat.beq p 2) 4 ?_)
  have hd := kq_for (P := fun k => kq_ex g d 205 R 2 [.ref 72, .int (nI f), .int (nI t), .int (nI k), .retAddr 0, .retAddr 0] [] (ka_sF h 96 (kh_b (ka_I h 96) t (fun r => if 0 < ka_I h 96 (f + r) then 1 else 0) k))) 256 ?_ (fun k hk ih => ?_)
  · rw [kh_b_0, ka_sF_eta] at hd
    exact hd
  · refine kq_seg (fun p => Nat.beq p 39) 20 ⟨fun _ => ?_, fun c => absurd c (nI_nlt (b := 256) (by omega) (by omega))⟩
    rw [kh_b_cg (v' := kR (kx_0 (fun r => ka_I h 96 (f + r)))) (fun r hr => by
      unfold kR kx_0
      rw [kb_bt _ 16 (by omega) _ (by omega), decide_eq_true (by omega : r % 16 < 16), Bool.true_and, show 16 * (r / 16) + r % 16 = r by omega]
      simp only [decide_eq_true_eq])]
    exact j39 _ _ _
  · refine kq_seg (fun p => Nat.beq p 2) 40 ⟨fun c => absurd (nI_lt (b := 256) hk (by omega)) c, fun _ => ⟨by rw [nI_add]; exact nI_in (N := 3072) (by omega) (by omega), ?_⟩⟩
    rw [nI_add, nI_clamp (by omega)]
    have hrd : ka_I (ka_sF h 96 (kh_b (ka_I h 96) t (fun r => if 0 < ka_I h 96 (f + r) then 1 else 0) k)) 96 (f + k) = ka_I h 96 (f + k) := by
      rw [ka_I_F, kh_b_F _ _ _ (by omega)]
    rw [nI_succ] at ih
    refine ⟨fun (c : ¬ 0 < ka_I (ka_sF h 96 _) 96 (f + k)) => ⟨hin k hk, ?_⟩, fun (c : 0 < ka_I (ka_sF h 96 _) 96 (f + k)) => ⟨hin k hk, ?_⟩⟩
    · rw [hrd] at c
      rw [nI_add, nI_clamp (by omega)]
      rw [← kh_b_s (n := k) (x := 0) _ _ _ (if_neg c), ← ka_sI_F] at ih
      exact ih
    · rw [hrd] at c
      rw [nI_add, nI_clamp (by omega)]
      rw [← kh_b_s (n := k) (x := 1) _ _ _ (if_pos c), ← ka_sI_F] at ih
      exact ih
end M6

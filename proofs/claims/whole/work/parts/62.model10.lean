/-! ===== the reference: a table's node; workNode, works ===== -/
theorem nI_ne_m1 {k : Nat} (hk : k < 2 ^ 31) : ¬ nI k = -1 := fun q => by
  have := congrArg Int32.toInt q
  rw [nI_toInt hk] at this
  have h9 : (-1 : Int32).toInt = -1 := by decide
  omega
theorem nI_m1_ne {k : Nat} (hk : k < 2 ^ 31) : ¬ (-1 : Int32) = nI k := fun q => nI_ne_m1 hk q.symm
theorem kv_opT {op : Nat} (h : op = 1 ∨ op = 2 ∨ op = 13) (H A B : Nat → Int32) (a b : Nat) : kv_op op H A B a b = kv_take op (H a) A a b := if_pos h
theorem kv_opL {op : Nat} (h : op = 8) (H A B : Nat → Int32) (a b : Nat) : kv_op op H A B a b = if bt (kx_ext (kx_0 A) 16 a) b = true then 1 else 0 := by
  unfold kv_op
  rw [if_neg (c := op = 1 ∨ op = 2 ∨ op = 13) (by omega), if_pos h]
theorem kv_opJ {op : Nat} (h : op = 9) (H A B : Nat → Int32) (a b : Nat) : kv_op op H A B a b = kv_join A B a b := by
  unfold kv_op
  rw [if_neg (c := op = 1 ∨ op = 2 ∨ op = 13) (by omega), if_neg (c := op = 8) (by omega), if_pos h]
theorem kv_opP {op : Nat} (h : op = 10 ∨ op = 11 ∨ op = 12) (H A B : Nat → Int32) (a b : Nat) : kv_op op H A B a b = kv_put op A B a b := by
  unfold kv_op
  rw [if_neg (c := op = 1 ∨ op = 2 ∨ op = 13) (by omega), if_neg (c := op = 8) (by omega), if_neg (c := op = 9) (by omega), if_pos h]
theorem kv_opM {op : Nat} (h : 3 ≤ op ∧ op ≤ 7) (H A B : Nat → Int32) (a b : Nat) : kv_op op H A B a b = if kv_mark op (fun y => A (16 * a + y)) = nI b then 1 else 0 := by
  unfold kv_op
  rw [if_neg (c := op = 1 ∨ op = 2 ∨ op = 13) (by omega), if_neg (c := op = 8) (by omega), if_neg (c := op = 9) (by omega), if_neg (c := op = 10 ∨ op = 11 ∨ op = 12) (by omega)]
theorem kv_take1 {op : Nat} (h : op = 1) (H : Int32) (A : Nat → Int32) (a b : Nat) : kv_take op H A a b = A (16 * b + a) := if_pos h
theorem kv_take2 {op : Nat} (h : op = 2) (H : Int32) (A : Nat → Int32) (a b : Nat) : kv_take op H A a b = if 0 < A (16 * a + b) then 1 else 0 := by
  unfold kv_take
  rw [if_neg (c := op = 1) (by omega), if_pos h]
theorem kv_take3 {op : Nat} (h : op = 13) (H : Int32) (A : Nat → Int32) (a b : Nat) : kv_take op H A a b = if bt H b = true then A (16 * a + b) else 0 := by
  unfold kv_take
  rw [if_neg (c := op = 1) (by omega), if_neg (c := op = 2) (by omega)]
theorem kv_put0 {op : Nat} (h : op = 10) (A B : Nat → Int32) (a b : Nat) : kv_put op A B a b = A (16 * a + b) + B (16 * a + b) := if_pos h
theorem kv_put1 {op : Nat} (h : op = 11) (A B : Nat → Int32) (a b : Nat) : kv_put op A B a b = A (16 * a + b) - B (16 * a + b) := by
  unfold kv_put
  rw [if_neg (c := op = 10) (by omega), if_pos h]
theorem kv_put2 {op : Nat} (h : op = 12) (A B : Nat → Int32) (a b : Nat) : kv_put op A B a b = if B (16 * a + b) < A (16 * a + b) then B (16 * a + b) else A (16 * a + b) := by
  unfold kv_put
  rw [if_neg (c := op = 10) (by omega), if_neg (c := op = 11) (by omega)]
theorem kn_16 (r : Nat) : 16 * (r / 16) + r % 16 = r := by omega
section M10
variable {g : Nat × (Nat → Int32)} {d : Nat} {h : ka_H} {R : ka_R → ka_H → Prop} {f1 f2 t i op tab n : Nat} {ed : Int32} {x3 x4 x5 z6 z7 z8 : Value}
theorem kn_table (hi : i < 72) (ht : ka_I h 81 i = nI tab) (htab : tab < 4) (hn : ka_I h 72 2 = nI n) (hn4 : n ≤ 400) (hrow : ∀ k, k < n → ∃ c, c < 256 ∧ ka_I h 74 k = nI c) (hT : t + 256 ≤ 3072) (hz : ∀ r, r < 256 → ka_I h 96 (t + r) = 0) (hmr : ka_I h 72 40 = -1 ∨ ∃ m, m < 1024 ∧ ka_I h 72 40 = nI m)
    (e : R (.inl none) (ka_sF h 96 (kh_b (ka_I h 96) t (km_tb h n ed tab) 256))) : kq_ex g d 202 R 96 [.ref 72, .int (nI i), .int (nI t), .int ed, x4, x5, z6, z7, z8] [] h := by
  have rd : ∀ (F : Nat → Int32) (a k : Nat), a ≠ 96 → ka_I (ka_sF h 96 F) a k = ka_I h a k := fun F a k ha => congrFun (ka_I_Fn h F ha) k
  have j213 : ∀ z6, kq_ex g d 202 R 213 [.ref 72, .int (nI i), .int (nI t), .int ed, x4, x5, z6, z7, z8] [] (ka_sF h 96 (kh_b (ka_I h 96) t (fun r => if ka_I h 95 (256 * tab + r) = 0 then kp_sum (km_ct h (nI tab) (nI r) ed) n else 0) 256)) := by
    intro z6
    generalize hF : kh_b (ka_I h 96) t (fun r => if ka_I h 95 (256 * tab + r) = 0 then kp_sum (km_ct h (nI tab) (nI r) ed) n else (0 : Int32)) 256 = F
    have same : (∀ r, r < 256 → ¬ ka_I h 72 40 = nI (256 * tab + r)) → R (.inl none) (ka_sF h 96 F) := fun hno => by
      rw [← hF, kh_b_cg (v' := km_tb h n ed tab) (fun r hr => by unfold km_tb; rw [if_neg (hno r hr), Int32.add_zero])]
      exact e
    refine kq_seg kp_no 40 ⟨fun c => same (fun r hr z => ?_), fun c => ?_⟩
    · rw [show ka_I (ka_sF h 96 F) 72 40 = ka_I h 72 40 from rd F 72 40 (by decide)] at c
      exact nI_ne_m1 (by omega) (z.symm.trans c)
    · rw [show ka_I (ka_sF h 96 F) 72 40 = ka_I h 72 40 from rd F 72 40 (by decide)] at c
      obtain ⟨m, hm, em⟩ := hmr.resolve_left c
      refine ⟨by decide, ?_⟩
      rw [rd F 72 40 (by decide), em, nI_d256 (by omega)]
      refine ⟨nI_in (N := 72) hi (by omega), ?_⟩
      rw [nI_clamp (by omega), show ka_I (ka_sF h 96 F) (kq_p (ka_sF h 96 F) 72 13) i = nI tab from (rd F 81 i (by decide)).trans ht]
      refine ⟨fun c2 => same (fun r hr z => c2 ?_), fun c2 => ⟨by decide, ?_⟩⟩
      · have := (nI_eq (by omega) (by omega)).mp (em.symm.trans z)
        rw [this, show (256 * tab + r) / 256 = tab by omega]
      · have c3 : m / 256 = tab := (nI_eq (by omega) (by omega)).mp c2
        rw [rd F 72 40 (by decide), em, nI_r256 (by omega)]
        refine ⟨kn_in hT (by omega), ⟨kn_in hT (by omega), ?_⟩⟩
        rw [kn_cl hT (by omega), show ka_I (ka_sF h 96 F) (kq_p (ka_sF h 96 F) 72 41) (t + m % 256) = F (t + m % 256) from congrFun (ka_I_F h 96 F) _]
        have hfin : kh_u F (t + m % 256) (F (t + m % 256) + 1) = kh_b (ka_I h 96) t (km_tb h n ed tab) 256 := by
          funext j
          unfold kh_u
          by_cases c4 : j = t + m % 256
          · rw [if_pos c4, c4, kh_b_T _ _ _ (by omega), ← hF, kh_b_T _ _ _ (by omega)]
            unfold km_tb
            rw [if_pos (show ka_I h 72 40 = nI (256 * tab + m % 256) by rw [em, show 256 * tab + m % 256 = m by omega])]
          · rw [if_neg c4, ← hF]
            by_cases c5 : t ≤ j ∧ j < t + 256
            · obtain ⟨r, rfl⟩ : ∃ r, j = t + r := ⟨j - t, by omega⟩
              rw [kh_b_T _ _ _ (by omega), kh_b_T _ _ _ (by omega)]
              unfold km_tb
              rw [if_neg (c := ka_I h 72 40 = nI (256 * tab + r)), Int32.add_zero]
              intro z
              have := (nI_eq (by omega) (by omega)).mp (em.symm.trans z)
              omega
            · rw [kh_b_F _ _ _ c5, kh_b_F _ _ _ c5]
        rw [← hfin, ← ka_sI_F] at e
        exact e
  have j165 : ∀ z6, kq_ex g d 202 R 165 [.ref 72, .int (nI i), .int (nI t), .int ed, x4, x5, z6, z7, z8] [] (ka_sF h 96 (kh_b (ka_I h 96) t (fun r => kp_sum (km_ct h (nI tab) (nI r) ed) n) 256)) := by
    intro z6
    refine kq_seg (fun p => Nat.beq p 168) 4 ?_
    generalize hS : (fun r => kp_sum (km_ct h (nI tab) (nI r) ed) n) = S
    have hS' : ∀ r, kp_sum (km_ct h (nI tab) (nI r) ed) n = S r := fun r => congrFun hS r
    have hd := kq_for (P := fun k => kq_ex g d 202 R 168 [.ref 72, .int (nI i), .int (nI t), .int ed, x4, x5, .int (nI k), z7, z8] [] (ka_sF h 96 (kh_b (kh_b (ka_I h 96) t S 256) t (fun r => if ka_I h 95 (256 * tab + r) = 0 then S r else 0) k))) 256 ?_ (fun k hk ih => ?_)
    · rw [kh_b_0] at hd
      exact hd
    · refine kq_seg (fun p => Nat.beq p 213) 20 ⟨fun _ => ?_, fun c => absurd c (nI_nlt (b := 256) (by omega) (by omega))⟩
      rw [kh_b_b]
      have := j213 (.int (nI 256))
      simp only [hS'] at this
      exact this
    · rw [nI_succ] at ih
      generalize hF : kh_b (kh_b (ka_I h 96) t S 256) t (fun r => if ka_I h 95 (256 * tab + r) = 0 then S r else (0 : Int32)) k = F at ih ⊢
      refine kq_seg (fun p => Nat.beq p 168) 40 ⟨fun c => absurd (nI_lt (b := 256) hk (by omega)) c, fun _ => ⟨nI_in (N := 72) hi (by omega), ?_⟩⟩
      rw [nI_clamp (by omega), show ka_I (ka_sF h 96 F) (kq_p (ka_sF h 96 F) 72 13) i = nI tab from (rd F 81 i (by decide)).trans ht]
      refine ⟨by rw [nI_256m, nI_add]; exact nI_in (N := 1024) (by omega) (by omega), ?_⟩
      rw [nI_256m, nI_add, nI_clamp (by omega), show ka_I (ka_sF h 96 F) (kq_p (ka_sF h 96 F) 72 39) (256 * tab + k) = ka_I h 95 (256 * tab + k) from rd F 95 _ (by decide)]
      refine ⟨fun c => ?_, fun c => ⟨kn_in hT hk, ?_⟩⟩
      · rw [← kh_b_s (n := k) (x := S k) _ _ _ (if_pos c)] at ih
        rw [show kh_u (kh_b (kh_b (ka_I h 96) t S 256) t (fun r => if ka_I h 95 (256 * tab + r) = 0 then S r else (0 : Int32)) k) (t + k) (S k) = F by
          have := kh_u_id F (t + k)
          rw [show F (t + k) = S k by rw [← hF, kh_b_F _ _ _ (by omega), kh_b_T _ _ _ hk]] at this
          rw [hF]; exact this] at ih
        exact ih
      · rw [kn_cl hT hk]
        rw [← kh_b_s (n := k) (x := 0) _ _ _ (if_neg c), ← ka_sI_F, hF] at ih
        exact ih
  refine kq_seg (fun p => Nat.beq p 99) 4 ?_
  have hd := kq_for (P := fun k => kq_ex g d 202 R 99 [.ref 72, .int (nI i), .int (nI t), .int ed, x4, x5, .int (nI k), z7, z8] [] (ka_sF h 96 (kh_b (ka_I h 96) t (fun r => kp_sum (km_ct h (nI tab) (nI r) ed) k) 256))) n ?_ (fun k hk ih => ?_)
  · rw [show kh_b (ka_I h 96) t (fun r => kp_sum (km_ct h (nI tab) (nI r) ed) 0) 256 = ka_I h 96 by
      funext j
      by_cases c : t ≤ j ∧ j < t + 256
      · obtain ⟨r, rfl⟩ : ∃ r, j = t + r := ⟨j - t, by omega⟩
        rw [kh_b_T _ _ _ (by omega), hz r (by omega)]
        rfl
      · rw [kh_b_F _ _ _ c], ka_sF_eta] at hd
    exact hd
  · refine kq_seg (fun p => Nat.beq p 165) 10 ⟨fun _ => j165 _, fun c => ?_⟩
    rw [rd _ 72 2 (by decide), hn] at c
    exact absurd c (nI_nlt (by omega) (by omega))
  · rw [nI_succ] at ih
    obtain ⟨c, hc, ec⟩ := hrow k hk
    generalize hF : kh_b (ka_I h 96) t (fun r => kp_sum (km_ct h (nI tab) (nI r) ed) k) 256 = F
    have same : (∀ r, km_ct h (nI tab) (nI r) ed k = 0) → kh_b (ka_I h 96) t (fun r => kp_sum (km_ct h (nI tab) (nI r) ed) (k + 1)) 256 = F := fun z => by
      rw [← hF]
      refine kh_b_cg (fun r hr => ?_)
      show kp_sum _ k + km_ct h (nI tab) (nI r) ed k = kp_sum _ k
      rw [z r, Int32.add_zero]
    refine kq_seg (fun p => Nat.beq p 99) 60 ⟨fun c => ?_, fun _ => ⟨nI_in (N := 400) (by omega) (by omega), ?_⟩⟩
    · rw [rd F 72 2 (by decide), hn] at c
      exact absurd (nI_lt hk (by omega)) c
    · rw [nI_clamp (by omega), show ka_I (ka_sF h 96 F) (kq_p (ka_sF h 96 F) 72 4) k = ka_I h 73 k from rd F 73 k (by decide)]
      refine ⟨nI_in (N := 72) hi (by omega), ?_⟩
      rw [nI_clamp (by omega), show ka_I (ka_sF h 96 F) (kq_p (ka_sF h 96 F) 72 13) i = nI tab from (rd F 81 i (by decide)).trans ht]
      refine ⟨fun c1 => ?_, fun c1 => ⟨nI_in (N := 400) (by omega) (by omega), ?_⟩⟩
      · rw [same (fun r => if_neg (fun z => c1 z.1))] at ih
        exact ih
      · rw [nI_clamp (by omega), show ka_I (ka_sF h 96 F) (kq_p (ka_sF h 96 F) 72 7) k = ka_I h 76 k from rd F 76 k (by decide)]
        refine ⟨fun c2 => ?_, fun c2 => ⟨nI_in (N := 400) (by omega) (by omega), ?_⟩⟩
        · rw [same (fun r => if_neg (fun z => absurd c2 (Int32.not_lt.mpr z.2.2)))] at ih
          exact ih
        · rw [nI_clamp (by omega), show ka_I (ka_sF h 96 F) (kq_p (ka_sF h 96 F) 72 5) k = nI c from (rd F 74 k (by decide)).trans ec]
          refine ⟨kn_in hT hc, ⟨nI_in (N := 400) (by omega) (by omega), ⟨kn_in hT hc, ?_⟩⟩⟩
          rw [kn_cl hT hc, nI_clamp (by omega), show ka_I (ka_sF h 96 F) (kq_p (ka_sF h 96 F) 72 41) (t + c) = kp_sum (km_ct h (nI tab) (nI c) ed) k from (congrFun (ka_I_F h 96 F) _).trans (by rw [← hF, kh_b_T _ _ _ hc]), show ka_I (ka_sF h 96 F) (kq_p (ka_sF h 96 F) 72 6) k = ka_I h 75 k from rd F 75 k (by decide)]
          rw [show kh_b (ka_I h 96) t (fun r => kp_sum (km_ct h (nI tab) (nI r) ed) (k + 1)) 256 = kh_u F (t + c) (kp_sum (km_ct h (nI tab) (nI c) ed) k + ka_I h 75 k) by
            funext j
            unfold kh_u
            by_cases c4 : j = t + c
            · rw [if_pos c4, c4, kh_b_T _ _ _ hc]
              show kp_sum _ k + km_ct h (nI tab) (nI c) ed k = _
              rw [show km_ct h (nI tab) (nI c) ed k = ka_I h 75 k from if_pos ⟨c1, ec, Int32.not_lt.mp c2⟩]
            · rw [if_neg c4, ← hF]
              by_cases c5 : t ≤ j ∧ j < t + 256
              · obtain ⟨r, rfl⟩ : ∃ r, j = t + r := ⟨j - t, by omega⟩
                rw [kh_b_T _ _ _ (by omega), kh_b_T _ _ _ (by omega)]
                show kp_sum _ k + km_ct h (nI tab) (nI r) ed k = _
                rw [show km_ct h (nI tab) (nI r) ed k = 0 from if_neg (fun z => by
                  have := (nI_eq (by omega) (by omega)).mp (ec.symm.trans z.2.1)
                  omega), Int32.add_zero]
              · rw [kh_b_F _ _ _ c5, kh_b_F _ _ _ c5], ← ka_sI_F] at ih
          exact ih
/-- a node of the reference: its operator, its table, its operands, its condition -/
def kNd (h : ka_H) (i k op tab o1 o2 : Nat) (H : Nat → Int32) : Prop := ka_I h 80 i = nI op ∧ op ≤ 13 ∧ (op = 0 → ka_I h 81 i = nI tab ∧ tab < 4 ∧ ka_I h 82 i = -1 ∧ ka_I h 83 i = -1) ∧ (1 ≤ op → ka_I h 82 i = nI o1 ∧ o1 < k) ∧ (9 ≤ op → op ≤ 12 → ka_I h 83 i = nI o2 ∧ o2 < k) ∧ (1 ≤ op → ¬ (9 ≤ op ∧ op ≤ 12) → ka_I h 83 i = -1) ∧ (op = 13 → kHold h i H)
/-- what a node has, out of what the nodes ahead of it have -/
def kv_nd (h : ka_H) (n : Nat) (ed : Int32) (op tab o1 o2 : Nat) (H : Nat → Int32) (NV : Nat → Nat → Int32) (r : Nat) : Int32 := if op = 0 then km_tb h n ed tab r else kv_op op H (NV o1) (NV o2) (r / 16) (r % 16)
theorem kc_workNode (hf : kf g h) {k o1 o2 : Nat} {H : Nat → Int32} {NV : Nat → Nat → Int32} (hi : i < 72) (hk : k < 12) (hN : kNd h i k op tab o1 o2 H) (hn : ka_I h 72 2 = nI n) (hn4 : n ≤ 400) (hrow : ∀ k, k < n → ∃ c, c < 256 ∧ ka_I h 74 k = nI c) (hmr : ka_I h 72 40 = -1 ∨ ∃ m, m < 1024 ∧ ka_I h 72 40 = nI m)
    (hz : ∀ r, r < 256 → ka_I h 96 (256 * k + r) = 0) (hNV : ∀ j r, j < k → r < 256 → ka_I h 96 (256 * j + r) = NV j r)
    (e : ∀ S, R (.inl none) (kM h (kh_b (ka_I h 96) (256 * k) (kv_nd h n ed op tab o1 o2 H NV) 256) S)) : kp_T (d + 3) 202 [.ref 72, .int (nI i), .int (nI (256 * k)), .int ed] h R := by
  obtain ⟨hw, h13, h0, h1, h2, -, hh⟩ := hN
  have hT : 256 * k + 256 ≤ 3072 := by omega
  have tail : ∀ V, (∀ r, r < 256 → V r = kv_nd h n ed op tab o1 o2 H NV r) → R (.inl none) (ka_sF h 96 (kh_b (ka_I h 96) (256 * k) V 256)) := fun V hV => by
    have := e (ka_I h 97)
    rw [← kM_F, ← kh_b_cg hV] at this
    exact this
  have opcg : ∀ (A B A' B' : Nat → Int32) (r : Nat), (∀ x, x < 256 → A x = A' x) → (∀ x, x < 256 → B x = B' x) → r < 256 → kv_op op H A B (r / 16) (r % 16) = kv_op op H A' B' (r / 16) (r % 16) := by
    intro A B A' B' r hA hB hr
    have hx0 : ∀ a, a < 16 → kx_0 A a = kx_0 A' a := fun a ha => by
      unfold kx_0
      refine b_ext fun i hi => ?_
      rw [kb_bt _ 16 (by omega) i hi, kb_bt _ 16 (by omega) i hi]
      by_cases c : i < 16
      · rw [hA _ (by omega)]
      · rw [decide_eq_false c, Bool.false_and, Bool.false_and]
    have hmk : kv_mark op (fun y => A (16 * (r / 16) + y)) = kv_mark op (fun y => A' (16 * (r / 16) + y)) := by
      have hl : ∀ y, y < 16 → A (16 * (r / 16) + y) = A' (16 * (r / 16) + y) := fun y hy => hA _ (by omega)
      unfold kv_mark
      rw [kp_sum_cg (f := fun y => A (16 * (r / 16) + y)) (f' := fun y => A' (16 * (r / 16) + y)) 16 hl, kp_sum_cg (f := fun b => kp_b (0 < A (16 * (r / 16) + b))) (f' := fun b => kp_b (0 < A' (16 * (r / 16) + b))) 16 (fun b hb => by show kp_b (0 < A _) = kp_b (0 < A' _); rw [hl b hb]), kp_sum_cg (f := fun b => nI b * A (16 * (r / 16) + b)) (f' := fun b => nI b * A' (16 * (r / 16) + b)) 16 (fun b hb => by show nI b * A _ = nI b * A' _; rw [hl b hb])]
      have hq : ∀ z, kv_nth (fun b => decide (0 < A (16 * (r / 16) + b))) z 16 0 0 = kv_nth (fun b => decide (0 < A' (16 * (r / 16) + b))) z 16 0 0 := fun z => kv_nth_cg z 16 0 0 (fun b _ hb => by show decide (0 < A _) = decide (0 < A' _); rw [hl b (by omega)])
      rw [hq, hq, hq]
    unfold kv_op kv_take kv_put kv_join kv_jn
    rw [hmk, hA _ (show 16 * (r % 16) + r / 16 < 256 by omega), hA _ (show 16 * (r / 16) + r % 16 < 256 by omega), hB _ (show 16 * (r / 16) + r % 16 < 256 by omega), kx_ext_cg hx0 16 (Nat.le_refl _) (r / 16) (by omega), kp_sum_cg (f := fun y => A (16 * (r / 16) + y) * B (16 * y + r % 16)) (f' := fun y => A' (16 * (r / 16) + y) * B' (16 * y + r % 16)) 16 (fun y hy => by show A _ * B _ = A' _ * B' _; rw [hA _ (by omega), hB _ (by omega)])]
  have hop : 1 ≤ op → ∀ V, (∀ r, r < 256 → V r = kv_op op H (fun r => ka_I h 96 (256 * o1 + r)) (fun r => ka_I h 96 (256 * o2 + r)) (r / 16) (r % 16)) → (¬ (9 ≤ op ∧ op ≤ 12) → ∀ (A B B' : Nat → Int32) r, kv_op op H A B (r / 16) (r % 16) = kv_op op H A B' (r / 16) (r % 16)) → R (.inl none) (ka_sF h 96 (kh_b (ka_I h 96) (256 * k) V 256)) := by
    intro ho V hV hu
    refine tail V (fun r hr => ?_)
    rw [hV r hr]
    unfold kv_nd
    rw [if_neg (by omega)]
    by_cases c : 9 ≤ op ∧ op ≤ 12
    · exact opcg _ _ _ _ r (fun x hx => hNV o1 x (h1 ho).2 hx) (fun x hx => hNV o2 x (h2 c.1 c.2).2 hx) hr
    · rw [hu c _ _ (NV o2) r]
      exact opcg _ _ _ _ r (fun x hx => hNV o1 x (h1 ho).2 hx) (fun x hx => rfl) hr
  refine kq_in hf rfl rfl rfl (kq_seg (fun p => Nat.beq p 30) 30 ⟨nI_in (N := 72) hi (by omega), ⟨nI_in (N := 72) hi (by omega), ⟨nI_in (N := 72) hi (by omega), ?_⟩⟩⟩)
  rw [nI_clamp (by omega), show ka_I h (kq_p h 72 12) i = nI op from hw]
  refine kq_tsw (lo := 0) rfl rfl (Nat.zero_le _) (by omega) (by decide) ?_
  by_cases c0 : op = 0
  · have := h0 c0
    rw [c0]
    exact kn_table hi this.1 this.2.1 hn hn4 hrow hT hz hmr (tail _ (fun r _ => by unfold kv_nd; rw [if_pos c0]))
  · have ho : 1 ≤ op := by omega
    have h1' := h1 ho
    rw [show ka_I h (kq_p h 72 14) i = nI o1 from h1'.1, nI_256m]
    rcases (by omega : op = 1 ∨ op = 2 ∨ (3 ≤ op ∧ op ≤ 7) ∨ op = 8 ∨ op = 9 ∨ op = 10 ∨ op = 11 ∨ op = 12 ∨ op = 13) with c | c | c | c | c | c | c | c | c
    · rw [show List.getD [96, 260, 311, 358, 358, 358, 358, 358, 402, 412, 514, 564, 614] (op - 0) 689 = 260 by rw [c]; rfl]
      refine kn_flip hT (by omega) (hop ho _ (fun r hr => ?_) (fun _ A B B' r => ?_))
      · rw [kv_opT (Or.inl c), kv_take1 c]
      · rw [kv_opT (Or.inl c), kv_opT (Or.inl c)]
    · rw [show List.getD [96, 260, 311, 358, 358, 358, 358, 358, 402, 412, 514, 564, 614] (op - 0) 689 = 311 by rw [c]; rfl]
      refine kn_one hT (by omega) (hop ho _ (fun r hr => ?_) (fun _ A B B' r => ?_))
      · rw [kv_opT (Or.inr (Or.inl c)), kv_take2 c, kn_16]
      · rw [kv_opT (Or.inr (Or.inl c)), kv_opT (Or.inr (Or.inl c))]
    · rw [show List.getD [96, 260, 311, 358, 358, 358, 358, 358, 402, 412, 514, 564, 614] (op - 0) 689 = 358 by rcases (by omega : op = 3 ∨ op = 4 ∨ op = 5 ∨ op = 6 ∨ op = 7) with z | z | z | z | z <;> rw [z] <;> rfl]
      refine kn_groups hf c hi hw hT (by omega) hz (hop ho _ (fun r hr => ?_) (fun _ A B B' r => ?_))
      · rw [kv_opM c]
      · rw [kv_opM c, kv_opM c]
    · rw [show List.getD [96, 260, 311, 358, 358, 358, 358, 358, 402, 412, 514, 564, 614] (op - 0) 689 = 402 by rw [c]; rfl]
      refine kq_seg kp_no 10 ?_
      refine kc_loops hf hT (by omega) ⟨kf_F hf 96 rfl rfl, hop ho _ (fun r hr => ?_) (fun _ A B B' r => ?_)⟩
      · rw [kv_opL c]
        rfl
      · rw [kv_opL c, kv_opL c]
    · have h2' := h2 (by omega) (by omega)
      rw [show ka_I h (kq_p h 72 15) i = nI o2 from h2'.1, nI_256m]
      rw [show List.getD [96, 260, 311, 358, 358, 358, 358, 358, 402, 412, 514, 564, 614] (op - 0) 689 = 412 by rw [c]; rfl]
      refine kn_join hT (by omega) (by omega) hz (hop ho _ (fun r hr => ?_) (fun z => absurd (by omega) z))
      rw [kv_opJ c]
    · have h2' := h2 (by omega) (by omega)
      rw [show ka_I h (kq_p h 72 15) i = nI o2 from h2'.1, nI_256m]
      rw [show List.getD [96, 260, 311, 358, 358, 358, 358, 358, 402, 412, 514, 564, 614] (op - 0) 689 = 514 by rw [c]; rfl]
      refine kn_add hT (by omega) (by omega) (hop ho _ (fun r hr => ?_) (fun z => absurd (by omega) z))
      rw [kv_opP (by omega), kv_put0 c, kn_16]
    · have h2' := h2 (by omega) (by omega)
      rw [show ka_I h (kq_p h 72 15) i = nI o2 from h2'.1, nI_256m]
      rw [show List.getD [96, 260, 311, 358, 358, 358, 358, 358, 402, 412, 514, 564, 614] (op - 0) 689 = 564 by rw [c]; rfl]
      refine kn_less hT (by omega) (by omega) (hop ho _ (fun r hr => ?_) (fun z => absurd (by omega) z))
      rw [kv_opP (by omega), kv_put1 c, kn_16]
    · have h2' := h2 (by omega) (by omega)
      rw [show ka_I h (kq_p h 72 15) i = nI o2 from h2'.1, nI_256m]
      rw [show List.getD [96, 260, 311, 358, 358, 358, 358, 358, 402, 412, 514, 564, 614] (op - 0) 689 = 614 by rw [c]; rfl]
      refine kn_both hT (by omega) (by omega) (hop ho _ (fun r hr => ?_) (fun z => absurd (by omega) z))
      rw [kv_opP (by omega), kv_put2 c, kn_16]
      by_cases q : ka_I h 96 (256 * o1 + r) < ka_I h 96 (256 * o2 + r)
      · rw [if_pos q, if_neg (fun z => Int32.lt_asymm q z)]
      · rw [if_neg q]
        by_cases q2 : ka_I h 96 (256 * o2 + r) < ka_I h 96 (256 * o1 + r)
        · rw [if_pos q2]
        · rw [if_neg q2]
          exact Int32.le_antisymm (Int32.not_lt.mp q) (Int32.not_lt.mp q2)
    · rw [show List.getD [96, 260, 311, 358, 358, 358, 358, 358, 402, 412, 514, 564, 614] (op - 0) 689 = 689 by rw [c]; rfl]
      refine kn_where hf hi (hh c) hT (by omega) (fun S => ?_)
      have := e S
      rw [← kh_b_cg (v := fun r => if bt (H (r / 16)) (r % 16) = true then ka_I h 96 (256 * o1 + r) else 0) (fun r hr => by
        unfold kv_nd
        rw [if_neg c0, kv_opT (Or.inr (Or.inr c)), kv_take3 c, kn_16, hNV o1 r h1'.2 hr])] at this
      exact this
end M10

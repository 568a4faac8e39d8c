/-! ===== the class's worker: a shelf refreshed; which lines to try ===== -/
/-- where a shelf's counts lie -/
def kv_cr (h : ka_H) (s : Nat) (t : Int32) : Nat := if s = 0 then 64 else if t = 0 then ka_P h s 8 else ka_P h s 9
section W6
variable {g : Nat × (Nat → Int32)} {d : Nat} {h : ka_H} {R : ka_R → ka_H → Prop}
theorem kc_refresh (hf : kf g h) {s r1 r2 c q op : Nat} {t ls : Int32} (hs : (ka_K h s).1 = 5) (hs0 : s ≠ 0) (ho : ka_P h s 1 = 1000000 + op) (h1 : 1 ≤ op) (h13 : op ≤ 13) (hq : ka_P h s 4 = q) (hQ : kr h q 16)
    (h5 : ka_P h s 5 = 0 ∨ (ka_K h (ka_P h s 5)).1 = 5) (h6 : ka_P h s 6 = 0 ∨ (ka_K h (ka_P h s 6)).1 = 5) (e1 : kv_cr h (ka_P h s 5) t = r1) (e2 : kv_cr h (ka_P h s 6) t = r2) (ec : kv_cr h s t = c)
    (hr1 : kr h r1 256) (hr2 : kr h r2 256) (hc : kr h c 256) (nr1 : r1 ≠ 65 ∧ r1 ≠ 66 ∧ r1 ≠ c) (nr2 : r2 ≠ 65 ∧ r2 ≠ 66 ∧ r2 ≠ c) (nc : c ≠ 65 ∧ c ≠ 66) (nq : q ≠ 65 ∧ q ≠ 66 ∧ q ≠ c)
    (e : ∀ F L, R (kp_ri (kv_am ls (ka_I h c) (kv_op op (ka_I h q) (ka_I h r1) (ka_I h r2)) 16)) (kW h c F L (kh_m ls (ka_I h c) (kv_op op (ka_I h q) (ka_I h r1) (ka_I h r2)) 16))) :
    kp_T (d + 4) 59 [.ref 63, .ref s, .int t, .int ls] h R := by
  have hp : kq_p h s 1 = 1000000 + op := (kq_p_s hf s 1).trans ho
  have hp5 : kq_p h s 5 = ka_P h s 5 := kq_p_s hf s 5
  have hp6 : kq_p h s 6 = ka_P h s 6 := kq_p_s hf s 6
  have hfW : ∀ F L C, kf g (kW h c F L C) := fun F L C => kW_f hf hc.1
  have loop : ∀ F0 L, (op = 8 → ls ≠ 0 → ∀ a, a < 16 → L a = kx_ext (kx_0 (ka_I h r1)) 16 a) → kd_ex g (d + 3) 59 R 60 [.ref 63, .ref s, .int t, .int ls, .ref r1, .ref r2, .ref c, .int 0, .int (nI 0)] [] (kW h c F0 L (ka_I h c)) := by
    intro F0 L hL
    have hd := kq_for (P := fun k => ∀ F, kd_ex g (d + 3) 59 R 60 [.ref 63, .ref s, .int t, .int ls, .ref r1, .ref r2, .ref c, .int (kv_am ls (ka_I h c) (kv_op op (ka_I h q) (ka_I h r1) (ka_I h r2)) k), .int (nI k)] [] (kW h c F L (kh_m ls (ka_I h c) (kv_op op (ka_I h q) (ka_I h r1) (ka_I h r2)) k))) 16 ?_ (fun k hk ih F => ?_)
    · have := hd F0
      rw [show kh_m ls (ka_I h c) (kv_op op (ka_I h q) (ka_I h r1) (ka_I h r2)) 0 = ka_I h c from funext fun j => if_neg (by omega)] at this
      exact this
    · intro F
      exact kd_seg (fun p => Nat.beq p 60) 40 ⟨fun _ => ⟨trivial, e F L⟩, fun c => absurd c (nI_nlt (b := 16) (by omega) (by omega))⟩
    · refine kd_seg (fun p => Nat.beq p 60) 40 ⟨fun z => absurd (nI_lt (b := 16) hk (by omega)) z, fun _ => ?_⟩
      have hbit := b_bit ls (n := k) (by omega)
      rw [nI_succ] at ih
      refine ⟨fun z => ?_, fun z => ?_⟩
      · have hb : ¬ bt ls k = true := fun y => by
          rw [if_pos y] at hbit
          exact absurd (hbit.symm.trans z) (by decide)
        have ih' := ih F
        rw [kh_m_no hb, show kv_am ls (ka_I h c) (kv_op op (ka_I h q) (ka_I h r1) (ka_I h r2)) (k + 1) = kv_am ls (ka_I h c) (kv_op op (ka_I h q) (ka_I h r1) (ka_I h r2)) k by show _ ||| _ = _; rw [if_neg (fun y => hb y.1), b_or0]] at ih'
        exact ih'
      · have hb : bt ls k = true := by
          refine Classical.byContradiction fun y => z ?_
          rw [if_neg y] at hbit
          exact hbit
        have hls : ls ≠ 0 := fun y => by rw [y, b_0] at hb; exact absurd hb (by decide)
        refine ⟨kK hf rfl rfl, ?_⟩
        refine kc_workLine (d := d) (q := q) (op := op) (hfW F L _) hs ho h1 h13 hq hQ hr1 hr2 nr1.1 nr2.1 nq.1 hk (fun y => by rw [kW_I66 nc.2, kW_In nr1.1 nr1.2.1 nr1.2.2]; exact hL y hls k hk) ⟨?_, ?_⟩
        · rw [kW_65 nc.1]; exact hfW _ _ _
        · rw [kW_65 nc.1, kW_I65 nc.1, kW_In nq.1 nq.2.1 nq.2.2, kW_In nr1.1 nr1.2.1 nr1.2.2, kW_In nr2.1 nr2.2.1 nr2.2.2]
          refine ⟨kK hf rfl rfl, ?_⟩
          refine kc_keepLine (d := d + 2) (hfW _ L _) hc nc.1 hk ⟨?_, ?_⟩
          · rw [kW_c]; exact hfW _ _ _
          · rw [kW_c, kW_Ic, kW_I65 nc.1]
            have hF : ∀ b, b < 16 → kh_o F (kv_op op (ka_I h q) (ka_I h r1) (ka_I h r2) k) 16 b = kv_op op (ka_I h q) (ka_I h r1) (ka_I h r2) k b := fun b hb => kh_o_T _ _ hb
            rw [kh_m_yes hb hF, kv_alt_cg (f := fun b => kh_m ls (ka_I h c) (kv_op op (ka_I h q) (ka_I h r1) (ka_I h r2)) k (16 * k + b)) (f' := fun b => ka_I h c (16 * k + b)) (v' := kv_op op (ka_I h q) (ka_I h r1) (ka_I h r2) k) 16 (fun b _ => if_neg (by omega)) hF]
            have ih' := ih (kh_o F (kv_op op (ka_I h q) (ka_I h r1) (ka_I h r2) k) 16)
            refine ⟨fun y => ?_, fun y => ?_⟩
            · rw [show kv_am ls (ka_I h c) (kv_op op (ka_I h q) (ka_I h r1) (ka_I h r2)) (k + 1) = kv_am ls (ka_I h c) (kv_op op (ka_I h q) (ka_I h r1) (ka_I h r2)) k ||| 0 by show _ ||| _ = _; rw [if_neg (fun x => x.2 y)]] at ih'
              exact ih'
            · rw [show kv_am ls (ka_I h c) (kv_op op (ka_I h q) (ka_I h r1) (ka_I h r2)) (k + 1) = kv_am ls (ka_I h c) (kv_op op (ka_I h q) (ka_I h r1) (ka_I h r2)) k ||| (1 : Int32) <<< (nI k &&& 31) by show _ ||| _ = _; rw [if_pos ⟨hb, y⟩]] at ih'
              exact ih'
  refine kd_in hf rfl rfl rfl (kd_seg (fun p => Nat.beq p 54) 40 ⟨hs, ?_⟩)
  rw [hp5]
  refine ⟨kK hf rfl rfl, kq_ci (kc_countsOf hf h5) hf ⟨hs, ?_⟩⟩
  rw [hp6]
  refine ⟨kK hf rfl rfl, kq_ci (kc_countsOf hf h6) hf ⟨kK hf rfl rfl, kq_ci (kc_countsOf hf (Or.inr hs)) hf ⟨hs, ⟨(show kq_p h s 1 < 1000014 by omega), by decide⟩, ?_⟩⟩⟩
  rw [show (if ka_P h s 5 = 0 then 64 else if t = 0 then ka_P h (ka_P h s 5) 8 else ka_P h (ka_P h s 5) 9) = r1 from e1, show (if ka_P h s 6 = 0 then 64 else if t = 0 then ka_P h (ka_P h s 6) 8 else ka_P h (ka_P h s 6) 9) = r2 from e2, show (if s = 0 then 64 else if t = 0 then ka_P h s 8 else ka_P h s 9) = c from ec]
  have j54 : ∀ F0 L, (op = 8 → ls ≠ 0 → ∀ a, a < 16 → L a = kx_ext (kx_0 (ka_I h r1)) 16 a) → kd_ex g (d + 3) 59 R 54 [.ref 63, .ref s, .int t, .int ls, .ref r1, .ref r2, .ref c, .retAddr 0, .retAddr 0] [] (kW h c F0 L (ka_I h c)) := fun F0 L hL => kd_seg (fun p => Nat.beq p 60) 6 (loop F0 L hL)
  have j0 : (op = 8 → ls = 0) → kd_ex g (d + 3) 59 R 54 [.ref 63, .ref s, .int t, .int ls, .ref r1, .ref r2, .ref c, .retAddr 0, .retAddr 0] [] h := fun z => by
    have := j54 (ka_I h 65) (ka_I h 66) (fun y1 y2 => absurd (z y1) y2)
    rw [kW_0] at this
    exact this
  refine ⟨fun z => j0 (fun y => absurd (show kq_p h s 1 = 1000008 by omega) z), fun z => ⟨fun y => j0 (fun _ => y), fun y => ⟨kK hf rfl rfl, ?_⟩⟩⟩
  refine kq_cv (kc_link hf hr1 nr1.2.1) (kf_F hf 66 rfl rfl) ⟨kK hf rfl rfl, ?_⟩
  refine kc_extendLinks (kf_F hf 66 rfl rfl) ⟨?_, ?_⟩
  · rw [ka_sF_F]; exact kf_F hf 66 rfl rfl
  · rw [ka_sF_F, ka_I_F]
    have := j54 (ka_I h 65) (kx_ext (kh_o (ka_I h 66) (fun a => kb_s (kv_pos h r1 a) 16) 16) 16) (fun _ _ a ha => kx_ext_cg (fun a ha => kh_o_T _ _ ha) 16 (Nat.le_refl _) a ha)
    rw [show kW h c (ka_I h 65) (kx_ext (kh_o (ka_I h 66) (fun a => kb_s (kv_pos h r1 a) 16) 16) 16) (ka_I h c) = ka_sF h 66 (kx_ext (kh_o (ka_I h 66) (fun a => kb_s (kv_pos h r1 a) 16) 16) 16) by
      unfold kW
      rw [ka_sF_eta, ← ka_I_Fn h (kx_ext (kh_o (ka_I h 66) (fun a => kb_s (kv_pos h r1 a) 16) 16) 16) nc.2, ka_sF_eta]] at this
    exact this
def kv_of (h : ka_H) (s : Nat) : Int32 := if s = 0 then 0 else ka_I h s 13
theorem kc_linesToTry (hf : kf g h) {s op r : Nat} (hs : (ka_K h s).1 = 5) (ho : ka_P h s 1 = 1000000 + op) (h13 : op ≤ 13) (h5 : ka_P h s 5 = 0 ∨ (ka_K h (ka_P h s 5)).1 = 5) (h6 : ka_P h s 6 = 0 ∨ (ka_K h (ka_P h s 6)).1 = 5) (er : kv_cr h (ka_P h s 5) 1 = r) (hr : kr h r 256) :
    kp_T (d + 2) 60 [.ref 63, .ref s] h (kp_is (.int (if op = 1 ∨ op = 8 then (if kv_of h (ka_P h s 5) = 0 then 0 else 65535) else if op = 9 then kv_of h (ka_P h s 5) ||| kv_meet (ka_I h r) (kv_of h (ka_P h s 6)) 256 else kv_of h (ka_P h s 5) ||| kv_of h (ka_P h s 6))) h) := by
  have hp : kq_p h s 1 = 1000000 + op := (kq_p_s hf s 1).trans ho
  have hp5 : kq_p h s 5 = ka_P h s 5 := kq_p_s hf s 5
  have hp6 : kq_p h s 6 = ka_P h s 6 := kq_p_s hf s 6
  have j38 : ∀ x y : Int32, x = kv_of h (ka_P h s 5) → y = kv_of h (ka_P h s 6) → kd_ex g (d + 1) 60 (kp_is (.int (if op = 1 ∨ op = 8 then (if kv_of h (ka_P h s 5) = 0 then 0 else 65535) else if op = 9 then kv_of h (ka_P h s 5) ||| kv_meet (ka_I h r) (kv_of h (ka_P h s 6)) 256 else kv_of h (ka_P h s 5) ||| kv_of h (ka_P h s 6))) h) 38 [.ref 63, .ref s, .int x, .int y] [] h := by
    intro x y hx hy
    rw [← hx, ← hy]
    have j58 : (op = 1 ∨ op = 8) → kd_ex g (d + 1) 60 (kp_is (.int (if op = 1 ∨ op = 8 then (if x = 0 then 0 else 65535) else if op = 9 then x ||| kv_meet (ka_I h r) y 256 else x ||| y)) h) 58 [.ref 63, .ref s, .int x, .int y] [] h := fun z => by
      rw [if_pos z]
      refine kd_seg kp_no 10 ⟨fun w => ?_, fun w => ?_⟩
      · rw [if_neg w]; exact ⟨trivial, rfl, rfl⟩
      · rw [if_pos w]; exact ⟨trivial, rfl, rfl⟩
    refine kd_seg (fun p => Nat.beq p 58) 40 ⟨hs, ⟨(show kq_p h s 1 < 1000014 by omega), by decide⟩, fun z => j58 (Or.inl (by have : kq_p h s 1 = 1000001 := z; omega)), fun z => ⟨hs, ⟨(show kq_p h s 1 < 1000014 by omega), by decide⟩, fun w => ?_, fun w => j58 (Or.inr (by have : kq_p h s 1 = 1000008 := w; omega))⟩⟩
    have hno : ¬ (op = 1 ∨ op = 8) := fun q => by
      rcases q with q | q
      · exact z (by show kq_p h s 1 = 1000001; omega)
      · exact w (by show kq_p h s 1 = 1000008; omega)
    rw [if_neg hno]
    refine ⟨hs, ⟨(show kq_p h s 1 < 1000014 by omega), by decide⟩, fun q => ?_, fun q => ⟨hs, ?_⟩⟩
    · rw [if_neg (fun z => q (by show kq_p h s 1 = 1000009; omega))]
      exact ⟨trivial, rfl, rfl⟩
    · rw [if_pos (by have : kq_p h s 1 = 1000009 := q; omega)]
      rw [hp5]
      refine ⟨kK hf rfl rfl, kq_ci (kc_countsOf hf h5) hf ?_⟩
      rw [show (if ka_P h s 5 = 0 then 64 else if Int32.ofInt 1 = 0 then ka_P h (ka_P h s 5) 8 else ka_P h (ka_P h s 5) 9) = r from er]
      refine kp_opq (kc_meet hf hr) (fun v hv => ⟨hf, ?_⟩)
      exact ⟨trivial, by rw [hv], rfl⟩
  have j19 : ∀ x : Int32, x = kv_of h (ka_P h s 5) → kd_ex g (d + 1) 60 (kp_is (.int (if op = 1 ∨ op = 8 then (if kv_of h (ka_P h s 5) = 0 then 0 else 65535) else if op = 9 then kv_of h (ka_P h s 5) ||| kv_meet (ka_I h r) (kv_of h (ka_P h s 6)) 256 else kv_of h (ka_P h s 5) ||| kv_of h (ka_P h s 6))) h) 19 [.ref 63, .ref s, .int x, .retAddr 0] [] h := by
    intro x hx
    refine kd_seg (fun p => Nat.beq p 38) 40 ⟨hs, ?_⟩
    rw [hp6]
    refine ⟨fun z => ⟨hs, ?_⟩, fun z => ?_⟩
    · rw [hp6]
      refine ⟨h6.resolve_left z, ?_⟩
      exact j38 _ _ hx (by unfold kv_of; rw [if_neg z])
    · exact j38 _ _ hx (by unfold kv_of; rw [if_pos z]; rfl)
  refine kd_in hf rfl rfl rfl (kd_seg (fun p => Nat.beq p 19) 40 ⟨hs, ?_⟩)
  rw [hp5]
  refine ⟨fun z => ⟨hs, ?_⟩, fun z => ?_⟩
  · rw [hp5]
    refine ⟨h5.resolve_left z, ?_⟩
    exact j19 _ (by unfold kv_of; rw [if_neg z])
  · exact j19 _ (by unfold kv_of; rw [if_pos z]; rfl)
end W6

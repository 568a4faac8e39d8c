/-! ===== the walk over cells that aren't known by number: what a cell is is asked for, not computed (made out of part 32 by a program) ===== -/
def kd_o (h : ka_H) (a ci : Nat) (X : Prop) : Prop := (ka_K h a).1 = ci ∧ X
def kd_z (h : ka_H) (a : Nat) : Nat := (ka_K h a).2
def kd_w (a f : Nat) (X : Prop) : Prop := (Nat.blt a 103 = true → Nat.beq (pt a f) 0 = true) ∧ X
theorem kd_o_s {g : Nat × (Nat → Int32)} {h : ka_H} (_ : kf g h) {a ci : Nat} {X : Prop} (q : kd_o h a ci X) : (ka_K h a).1 = ci ∧ X := q
theorem kd_z_s {g : Nat × (Nat → Int32)} {h : ka_H} (_ : kf g h) (a : Nat) : kd_z h a = (ka_K h a).2 := rfl
theorem kd_w_s {a f : Nat} {X : Prop} (q : kd_w a f X) : (Nat.blt a 103 = true → Nat.beq (pt a f) 0 = true) ∧ X := q
/-- calls, with the fixed part kept -/
def kd_call (g : Nat × (Nat → Int32)) (call : Nat → List Value → ka_H → ka_R → ka_H → Prop) (hs : List (Nat × Nat × Nat × Nat × Nat × Nat)) (pc len m na : Nat) (L S : List Value) (h : ka_H) (k : ka_C) (R : ka_R → ka_H → Prop) : Prop :=
  cond (ka_okn na S) (∃ (r : ka_R) (h' : ka_H), call m ((S.take na).reverse) h r h' ∧ kf g h' ∧ ka_aft hs pc len L (S.drop na) k R r h') False
def kd_calln (g : Nat × (Nat → Int32)) (call : Nat → List Value → ka_H → ka_R → ka_H → Prop) (pc len m na : Nat) (L S : List Value) (h : ka_H) (k : ka_C) : Prop :=
  cond (ka_okn na S) (∃ (v : Option Value) (h' : ka_H), call m ((S.take na).reverse) h (.inl v) h' ∧ kf g h' ∧ (match v with | none => k (pc + len) L (S.drop na) h' | some w => k (pc + len) L (w :: S.drop na) h')) False
def kd_inv (g : Nat × (Nat → Int32)) (call : Nat → List Value → ka_H → ka_R → ka_H → Prop) (hs : List (Nat × Nat × Nat × Nat × Nat × Nat)) (pc len : Nat) (q : List Nat) (L S : List Value) (h : ka_H) (k : ka_C) (R : ka_R → ka_H → Prop) : Prop :=
  match q with
  | [6, m, na, ci] => (match ka_nth S na with
    | .ref a => kd_o h a ci (kd_call g call hs pc len m (na + 1) L S h k R)
    | _ => False)
  | [7, m, na] => kd_call g call hs pc len m na L S h k R
  | [8, m, na] => (match ka_nth S na with
    | .ref a => ¬ a = 0 ∧ kd_calln g call pc len m (na + 1) L S h k
    | _ => False)
  | [22, m, na, ci] => (match ka_nth S na with
    | .ref a => kd_o h a ci (kd_calln g call pc len m (na + 1) L S h k)
    | _ => False)
  | [23, m, na] => kd_calln g call pc len m na L S h k
  | [9] => (match S with
    | .ref a :: S' => cond (ka_okc 8 S') (¬ a = 0 ∧ k (pc + len) L S' h) False
    | _ => False)
  | [16] => (match S with
    | .int n :: .int dp :: .ref d :: .int sp :: .ref s :: S' => cond (ka_okc 8 S') (kd_o h s 30 (kd_o h d 30 ((0 ≤ sp.toInt ∧ 0 ≤ dp.toInt ∧ 0 ≤ n.toInt ∧ sp.toInt + n.toInt ≤ kd_z h s ∧ dp.toInt + n.toInt ≤ kd_z h d) ∧
        k (pc + len) L S' (ka_sF h d (ka_cpy (ka_I h s) (ka_I h d) sp.toNatClampNeg dp.toNatClampNeg n.toNatClampNeg))))) False
    | _ => False)
  | [17] => (match S with
    | .ref a :: S' => cond (ka_okc 8 S') (kd_o h a 30 ((kd_z h a ≤ 100000 ∧ ka_n h < 1000000) ∧ k (pc + len) L (.ref (ka_n h) :: S') (ka_sF (ka_new h 30 (kd_z h a) (kd_z h a)) (ka_n h) (ka_I h a)))) False
    | _ => False)
  | _ => False
/-- one instruction, the fixed part known -/
def kd_step (g : Nat × (Nat → Int32)) (lk : Nat → List Nat) (call : Nat → List Value → ka_H → ka_R → ka_H → Prop) (hs : List (Nat × Nat × Nat × Nat × Nat × Nat)) (rt : Nat) (i : Instr) (pc len : Nat) (ts : List Nat) (L S : List Value) (h : ka_H) (k : ka_C) (R : ka_R → ka_H → Prop) : Prop :=
  match i with
  | .getfield x => (match lk x, S with
    | [1, ci, f], .ref a :: S' => kd_o h a ci (k (pc + len) L (.int (ka_I h a f) :: S') h)
    | [2, ci, f], .ref a :: S' => kd_o h a ci (k (pc + len) L (.ref (kq_p h a f) :: S') h)
    | [3, ci, f], .ref a :: S' => kd_o h a ci (k (pc + len) L (.int (ka_I h a f) :: S') h)
    | _, _ => False)
  | .putfield x => (match lk x, S with
    | [1, ci, f], .int w :: .ref a :: S' => kd_o h a ci (cond (Nat.blt ci 10) (k (pc + len) L S' (ka_sI h a f w)) False)
    | [3, ci, f], .int w :: .ref a :: S' => kd_o h a ci (cond (Nat.blt ci 10) ((w = 0 ∨ w = 1) ∧ k (pc + len) L S' (ka_sI h a f w)) False)
    | [2, ci, f], .ref w :: .ref a :: S' => kd_o h a ci (cond (Nat.blt ci 10) (kd_w a f (k (pc + len) L S' (ka_sP h a f w))) False)
    | _, _ => False)
  | .iaload => (match S with | .int j :: .ref a :: S' => ((((ka_K h a).1 = 30 ∨ (ka_K h a).1 = 40) ∧ vp_in j (ka_K h a).2) ∧ k (pc + len) L (.int (ka_I h a j.toNatClampNeg) :: S') h) | _ => False)
  | .iastore => (match S with | .int w :: .int j :: .ref a :: S' => kd_o h a 30 (vp_in j (kd_z h a) ∧ k (pc + len) L S' (ka_sI h a j.toNatClampNeg w)) | _ => False)
  | .baload => (match S with | .int j :: .ref a :: S' => ((((ka_K h a).1 = 31 ∨ (ka_K h a).1 = 33) ∧ vp_in j (ka_K h a).2) ∧ k (pc + len) L (.int (ka_I h a j.toNatClampNeg) :: S') h) | _ => False)
  | .bastore => (match S with | .int w :: .int j :: .ref a :: S' => kd_o h a 31 ((vp_in j (kd_z h a) ∧ (w = 0 ∨ w = 1)) ∧ k (pc + len) L S' (ka_sI h a j.toNatClampNeg w)) | _ => False)
  | .laload => (match S with | .int j :: .ref a :: S' => kd_o h a 32 (vp_in j (kd_z h a) ∧ k (pc + len) L (.long (ka_J h a j.toNatClampNeg) :: S') h) | _ => False)
  | .lastore => (match S with | .long w :: .int j :: .ref a :: S' => kd_o h a 32 (vp_in j (kd_z h a) ∧ k (pc + len) L S' (ka_sJ h a j.toNatClampNeg w)) | _ => False)
  | .aaload => (match S with | .int j :: .ref a :: S' => ((34 ≤ (ka_K h a).1 ∧ (ka_K h a).1 ≤ 38 ∧ vp_in j (ka_K h a).2) ∧ k (pc + len) L (.ref (ka_P h a j.toNatClampNeg) :: S') h) | _ => False)
  | .aastore => (match S with | .ref w :: .int j :: .ref a :: S' => (((ka_K h a).1 = 34 ∧ (ka_K h w).1 = 5 ∨ (ka_K h a).1 = 35 ∧ (ka_K h w).1 = 4 ∨ (ka_K h a).1 = 36 ∧ (ka_K h w).1 = 3) ∧ vp_in j (ka_K h a).2) ∧ (Nat.blt a 103 = true → Nat.beq (pt a j.toNatClampNeg) 0 = true) ∧ k (pc + len) L S' (ka_sP h a j.toNatClampNeg w) | _ => False)
  | .arraylength => (match S with | .ref a :: S' => ((30 ≤ (ka_K h a).1 ∧ (ka_K h a).1 ≤ 40) ∧ k (pc + len) L (.int (Int32.ofNat (ka_K h a).2) :: S') h) | _ => False)
  | .new x => (match lk x with
    | [4, ci, sz] => ka_n h < 1000000 ∧ k (pc + len) L (.ref (ka_n h) :: S) (ka_new h ci sz sz)
    | [5, e] => cond (ka_okc 8 S) (ka_n h < 1000000 ∧ R (.inr (e, ka_n h)) (ka_new h (50 + e) 6 6)) False
    | _ => False)
  | .newarray t => (match S with | .int n :: S' => (¬ n < 0 ∧ n.toNatClampNeg ≤ 100000 ∧ ka_n h < 1000000) ∧ k (pc + len) L (.ref (ka_n h) :: S') (ka_new h (ka_at t) n.toNatClampNeg n.toNatClampNeg) | _ => False)
  | .anewarray x => (match lk x, S with | [4, ci, _], .int n :: S' => (3 ≤ ci ∧ ci ≤ 5 ∧ ¬ n < 0 ∧ n.toNatClampNeg ≤ 100000 ∧ ka_n h < 1000000) ∧ k (pc + len) L (.ref (ka_n h) :: S') (ka_new h (39 - ci) n.toNatClampNeg n.toNatClampNeg) | _, _ => False)
  | .multianewarray _ _ => False
  | .invokevirtual x => kd_inv g call hs pc len (lk x) L S h k R
  | .invokestatic x => kd_inv g call hs pc len (lk x) L S h k R
  | .invokespecial x => kd_inv g call hs pc len (lk x) L S h k R
  | .checkcast x => (match lk x, S with | [18], .ref a :: S' => kd_o h a 30 (k (pc + len) L (.ref a :: S') h) | _, _ => False)
  | i => ka_step lk call hs rt i pc len ts L S h k R
section KQ
variable {g : Nat × (Nat → Int32)} {lk : Nat → List Nat} {call : Nat → List Value → ka_H → ka_R → ka_H → Prop} {hs : List (Nat × Nat × Nat × Nat × Nat × Nat)} {rt : Nat} {k : ka_C} {R : ka_R → ka_H → Prop} {h : ka_H} {L S : List Value} {pc len : Nat}
theorem kd_call_s {m na : Nat} (q : kd_call g call hs pc len m na L S h k R) : ka_call call hs pc len m na L S h (fun pc L S h => kf g h ∧ k pc L S h) R := by
  obtain ⟨hok, r, h', hc, hf, ha⟩ := ka_cond q
  unfold ka_call
  rw [hok]
  exact ⟨r, h', hc, kq_aft hf ha⟩
theorem kd_calln_s {m na : Nat} (q : kd_calln g call pc len m na L S h k) : ka_calln call pc len m na L S h (fun pc L S h => kf g h ∧ k pc L S h) := by
  obtain ⟨hok, v, h', hc, hf, ha⟩ := ka_cond q
  unfold ka_calln
  rw [hok]
  cases v with
  | none => exact ⟨none, h', hc, hf, ha⟩
  | some w => exact ⟨some w, h', hc, hf, ha⟩
theorem kd_inv_s {q : List Nat} (hf : kf g h) (hst : kd_inv g call hs pc len q L S h k R) : ka_inv call hs pc len q L S h (fun pc L S h => kf g h ∧ k pc L S h) R := by
  unfold kd_inv at hst
  split at hst
  · split at hst
    · rename_i heq
      obtain ⟨h1, h2⟩ := kd_o_s hf hst
      simp only [ka_inv, heq]
      exact ⟨h1, kd_call_s h2⟩
    · exact hst.elim
  · exact kd_call_s hst
  · split at hst
    · rename_i heq
      simp only [ka_inv, heq]
      exact ⟨hst.1, kd_calln_s hst.2⟩
    · exact hst.elim
  · split at hst
    · rename_i heq
      obtain ⟨h1, h2⟩ := kd_o_s hf hst
      simp only [ka_inv, heq]
      exact ⟨h1, kd_calln_s h2⟩
    · exact hst.elim
  · exact kd_calln_s hst
  · split at hst
    · obtain ⟨h1, h2, h3⟩ := ka_cond hst
      simp only [ka_inv, h1, cond_true]
      exact ⟨h2, hf, h3⟩
    · exact hst.elim
  · split at hst
    · obtain ⟨h1, h2⟩ := ka_cond hst
      obtain ⟨h3, h4⟩ := kd_o_s hf h2
      obtain ⟨h5, h6, h7⟩ := kd_o_s hf h4
      rw [kd_z_s hf, kd_z_s hf] at h6
      simp only [ka_inv, h1, cond_true]
      exact ⟨⟨⟨h3, h5⟩, h6⟩, kf_sF hf h5, h7⟩
    · exact hst.elim
  · split at hst
    · obtain ⟨h1, h2⟩ := ka_cond hst
      obtain ⟨h3, h4, h5⟩ := kd_o_s hf h2
      rw [kd_z_s hf] at h4 h5
      simp only [ka_inv, h1, cond_true]
      exact ⟨⟨⟨h3, h4.1⟩, h4.2⟩, kf_sF (kf_new hf h4.2) (by show (if h.1 = h.1 then _ else _ : Nat × Nat).1 = 30; rw [if_pos rfl]), h5⟩
    · exact hst.elim
  · exact hst.elim
set_option maxHeartbeats 4000000 in
theorem kd_step_s {i : Instr} {ts : List Nat} (hf : kf g h) (hst : kd_step g lk call hs rt i pc len ts L S h k R) : ka_step lk call hs rt i pc len ts L S h (fun pc L S h => kf g h ∧ k pc L S h) R := by
  cases i
  case invokevirtual x => exact kd_inv_s hf hst
  case invokestatic x => exact kd_inv_s hf hst
  case invokespecial x => exact kd_inv_s hf hst
  case multianewarray x y => exact hst.elim
  case getfield x =>
    simp only [kd_step] at hst
    split at hst
    · rename_i heq
      simp only [ka_step, heq]
      obtain ⟨h1, h2⟩ := kd_o_s hf hst
      exact ⟨h1, hf, h2⟩
    · rename_i heq
      simp only [ka_step, heq]
      obtain ⟨h1, h2⟩ := kd_o_s hf hst
      rw [kq_p_s hf] at h2
      exact ⟨h1, hf, h2⟩
    · rename_i heq
      simp only [ka_step, heq]
      obtain ⟨h1, h2⟩ := kd_o_s hf hst
      exact ⟨h1, hf, h2⟩
    · exact hst.elim
  case putfield x =>
    simp only [kd_step] at hst
    split at hst
    · rename_i heq
      simp only [ka_step, heq]
      obtain ⟨h1, h2⟩ := kd_o_s hf hst
      obtain ⟨h3, h4⟩ := ka_cond h2
      have := Nat.lt_of_succ_le (Nat.le_of_ble_eq_true h3)
      exact ⟨h1, kf_sI hf (by omega), h4⟩
    · rename_i heq
      simp only [ka_step, heq]
      obtain ⟨h1, h2⟩ := kd_o_s hf hst
      obtain ⟨h3, h4, h5⟩ := ka_cond h2
      have := Nat.lt_of_succ_le (Nat.le_of_ble_eq_true h3)
      exact ⟨⟨h1, h4⟩, kf_sI hf (by omega), h5⟩
    · rename_i heq
      simp only [ka_step, heq]
      obtain ⟨h1, h2⟩ := kd_o_s hf hst
      obtain ⟨h3, h4⟩ := ka_cond h2
      obtain ⟨h5, h6⟩ := kd_w_s h4
      have := Nat.lt_of_succ_le (Nat.le_of_ble_eq_true h3)
      exact ⟨h1, kf_sP hf (by omega) h5, h6⟩
    · exact hst.elim
  case iaload =>
    simp only [kd_step] at hst
    split at hst
    · exact ⟨hst.1, hf, hst.2⟩
    · exact hst.elim
  case baload =>
    simp only [kd_step] at hst
    split at hst
    · exact ⟨hst.1, hf, hst.2⟩
    · exact hst.elim
  case iastore =>
    simp only [kd_step] at hst
    split at hst
    · obtain ⟨h1, h2, h3⟩ := kd_o_s hf hst
      rw [kd_z_s hf] at h2
      exact ⟨⟨h1, h2⟩, kf_sI hf (by omega), h3⟩
    · exact hst.elim
  case bastore =>
    simp only [kd_step] at hst
    split at hst
    · obtain ⟨h1, ⟨h2, h4⟩, h3⟩ := kd_o_s hf hst
      rw [kd_z_s hf] at h2
      exact ⟨⟨h1, h2, h4⟩, kf_sI hf (by omega), h3⟩
    · exact hst.elim
  case laload =>
    simp only [kd_step] at hst
    split at hst
    · obtain ⟨h1, h2, h3⟩ := kd_o_s hf hst
      rw [kd_z_s hf] at h2
      exact ⟨⟨h1, h2⟩, hf, h3⟩
    · exact hst.elim
  case lastore =>
    simp only [kd_step] at hst
    split at hst
    · obtain ⟨h1, h2, h3⟩ := kd_o_s hf hst
      rw [kd_z_s hf] at h2
      exact ⟨⟨h1, h2⟩, kf_sJ hf, h3⟩
    · exact hst.elim
  case aaload =>
    simp only [kd_step] at hst
    split at hst
    · exact ⟨hst.1, hf, hst.2⟩
    · exact hst.elim
  case aastore =>
    simp only [kd_step] at hst
    split at hst
    · obtain ⟨h1, h2, h3⟩ := hst
      exact ⟨h1, kf_sP hf (by omega) h2, h3⟩
    · exact hst.elim
  case arraylength =>
    simp only [kd_step] at hst
    split at hst
    · exact ⟨hst.1, hf, hst.2⟩
    · exact hst.elim
  case new x =>
    simp only [kd_step] at hst
    split at hst
    · rename_i heq
      simp only [ka_step, heq]
      exact ⟨hst.1, kf_new hf hst.1, hst.2⟩
    · rename_i heq
      simp only [ka_step, heq]
      exact hst
    · exact hst.elim
  case newarray t =>
    simp only [kd_step] at hst
    split at hst
    · exact ⟨hst.1, kf_new hf hst.1.2.2, hst.2⟩
    · exact hst.elim
  case anewarray x =>
    simp only [kd_step] at hst
    split at hst
    · rename_i heq
      simp only [ka_step, heq]
      exact ⟨hst.1, kf_new hf hst.1.2.2.2.2, hst.2⟩
    · exact hst.elim
  case checkcast x =>
    simp only [kd_step] at hst
    split at hst
    · rename_i heq
      simp only [ka_step, heq]
      obtain ⟨h1, h2⟩ := kd_o_s hf hst
      exact ⟨h1, hf, h2⟩
    · exact hst.elim
  case ifCond c o =>
    simp only [kd_step, ka_step] at hst ⊢
    split at hst
    · exact kq_br hf hst
    · exact hst.elim
  case if_icmp c o =>
    simp only [kd_step, ka_step] at hst ⊢
    split at hst
    · exact kq_br hf hst
    · exact hst.elim
  case if_acmp c o =>
    simp only [kd_step, ka_step] at hst ⊢
    split at hst
    · cases c <;> exact ⟨hst.1, fun z => ⟨hf, hst.2.1 z⟩, fun z => ⟨hf, hst.2.2 z⟩⟩
    · exact hst.elim
  case ifnull o =>
    simp only [kd_step, ka_step] at hst ⊢
    split at hst
    · exact ⟨fun z => ⟨hf, hst.1 z⟩, fun z => ⟨hf, hst.2 z⟩⟩
    · exact hst.elim
  case ifnonnull o =>
    simp only [kd_step, ka_step] at hst ⊢
    split at hst
    · exact ⟨fun z => ⟨hf, hst.1 z⟩, fun z => ⟨hf, hst.2 z⟩⟩
    · exact hst.elim
  case tableswitch a b c e =>
    simp only [kd_step, ka_step] at hst ⊢
    split at hst
    · exact kq_sw hf _ _ hst
    · exact hst.elim
  case ireturn => exact hst
  case areturn => exact hst
  case return_ => exact hst
  all_goals simp only [kd_step, ka_step] at hst ⊢
  all_goals try (exact hst.elim)
  all_goals try (exact ⟨hf, hst⟩)
  all_goals split at hst
  all_goals first
    | exact hst.elim
    | exact ⟨hf, hst⟩
    | exact ⟨hst.1, hf, hst.2⟩
    | (rename_i heq; simp only [heq]; exact ⟨hf, hst⟩)
    | (rename_i heq; simp only [heq]; exact ⟨hst.1, hf, hst.2⟩)
    | skip
def kd_wp (g : Nat × (Nat → Int32)) (lk : Nat → List Nat) (call : Nat → List Value → ka_H → ka_R → ka_H → Prop) (hs : List (Nat × Nat × Nat × Nat × Nat × Nat)) (rt : Nat) (cd : Nat → Option (Instr × Nat × List Nat)) (stop : Nat → Bool) (K : ka_C) (R : ka_R → ka_H → Prop) : Nat → ka_C
  | 0 => K
  | n + 1 => fun pc L S h => match cd pc with
    | none => False
    | some (i, len, ts) => kd_step g lk call hs rt i pc len ts L S h (fun pc' L' S' h' => match stop pc' with | true => K pc' L' S' h' | false => kd_wp g lk call hs rt cd stop K R n pc' L' S' h') R
end KQ
/-- from here, the fixed part being as it is, the method ends as R has it -/
def kd_ex (g : Nat × (Nat → Int32)) (d m : Nat) (R : ka_R → ka_H → Prop) : ka_C := fun pc L S h => kf g h → kp_ex d m R pc L S h
theorem kd_seg {g : Nat × (Nat → Int32)} {d m : Nat} {R : ka_R → ka_H → Prop} (stop : Nat → Bool) : ∀ (n : Nat) {pc : Nat} {L S : List Value} {h : ka_H}, kd_wp g (ka_lk (ka_own m)) (ka_run d) (ka_hs m) (ka_rt m) (ka_cd m) stop (kd_ex g d m R) R n pc L S h → kd_ex g d m R pc L S h
  | 0, _, _, _, _, hw => hw
  | n + 1, pc, L, S, h, hw => by
    intro hf
    unfold kd_wp at hw
    split at hw
    · exact hw.elim
    · rename_i i len ts hcd
      rcases kp_step_nx (kd_step_s hf hw) with ⟨pc', L', S', h', ⟨hf', hk⟩, back⟩ | ⟨r, h', hR, back⟩
      · refine kp_go hcd (back _ _ _ (fun _ _ _ _ _ z => z) ?_)
        cases hs : stop pc' with
        | true => rw [hs] at hk; exact hk hf'
        | false => rw [hs] at hk; exact kd_seg stop n hk hf'
      · exact kp_go hcd (back _ _ _ (fun _ _ _ _ _ z => z) hR)
/-- a method's contract out of its walk -/
theorem kd_in {g : Nat × (Nat → Int32)} {d m : Nat} {as L : List Value} {h : ka_H} {Q : ka_R → ka_H → Prop} (hf : kf g h) (h1 : ka_okc 30 as = true) (h2 : Nat.ble as.length (ka_mx m) = true) (hL : as ++ List.replicate (ka_mx m - as.length) (.retAddr 0) = L) (k : kd_ex g d m Q 0 L [] h) : kp_T (d + 1) m as h Q := kp_in h1 (Nat.le_of_ble_eq_true h2) hL (k hf)

/-! ===== the class's worker: marks, lines worked, shelves refreshed ===== -/
def kv_ush (x n : Int32) : Int32 := (x.toUInt32 >>> (n.toUInt32 &&& Int32.toUInt32 31)).toInt32
def kv_bc1 (x : Int32) : Int32 := x - (kv_ush x 1 &&& 1431655765)
def kv_bc2 (x : Int32) : Int32 := (x &&& 858993459) + (kv_ush x 2 &&& 858993459)
def kv_bc3 (x : Int32) : Int32 := (x + kv_ush x 4) &&& 252645135
def kv_bc4 (x : Int32) : Int32 := x + kv_ush x 8
def kv_bc5 (x : Int32) : Int32 := (x + kv_ush x 16) &&& 63
def kv_bc (x : Int32) : Int32 := kv_bc5 (kv_bc4 (kv_bc3 (kv_bc2 (kv_bc1 x))))
def kn_bc1 (n : Nat) : Nat := n - (n / 2 &&& 1431655765)
def kn_bc2 (n : Nat) : Nat := (n &&& 858993459) + (n / 4 &&& 858993459)
def kn_bc3 (n : Nat) : Nat := n + n / 16 &&& 252645135
def kn_bc4 (n : Nat) : Nat := n + n / 256
def kn_bc5 (n : Nat) : Nat := n + n / 65536 &&& 63
def kn_bc (n : Nat) : Nat := kn_bc5 (kn_bc4 (kn_bc3 (kn_bc2 (kn_bc1 n))))
def kn_pc (n : Nat) : Nat := n % 2 + n / 2 % 2 + n / 4 % 2 + n / 8 % 2 + n / 16 % 2 + n / 32 % 2 + n / 64 % 2 + n / 128 % 2 + n / 256 % 2 + n / 512 % 2 + n / 1024 % 2 + n / 2048 % 2 + n / 4096 % 2 + n / 8192 % 2 + n / 16384 % 2 + n / 32768 % 2
def kn_al (f : Nat → Bool) : Nat → Bool
  | 0 => true
  | n + 1 => f n && kn_al f n
theorem kn_al_s {f : Nat → Bool} : ∀ {n : Nat}, kn_al f n = true → ∀ b, b < n → f b = true
  | 0, _, b, hb => absurd hb (Nat.not_lt_zero b)
  | n + 1, h, b, hb => by
    unfold kn_al at h
    rw [Bool.and_eq_true] at h
    rcases Nat.lt_or_ge b n with z | z
    · exact kn_al_s h.2 b z
    · rw [show b = n by omega]; exact h.1
def kn_ok (a : Nat) : Bool := kn_al (fun b => Nat.beq (kn_bc (256 * a + b)) (kn_pc (256 * a + b))) 256
theorem kn_ok0 : kn_al (fun a => kn_ok (a + 0)) 32 = true := by decide +kernel
theorem kn_ok1 : kn_al (fun a => kn_ok (a + 32)) 32 = true := by decide +kernel
theorem kn_ok2 : kn_al (fun a => kn_ok (a + 64)) 32 = true := by decide +kernel
theorem kn_ok3 : kn_al (fun a => kn_ok (a + 96)) 32 = true := by decide +kernel
theorem kn_ok4 : kn_al (fun a => kn_ok (a + 128)) 32 = true := by decide +kernel
theorem kn_ok5 : kn_al (fun a => kn_ok (a + 160)) 32 = true := by decide +kernel
theorem kn_ok6 : kn_al (fun a => kn_ok (a + 192)) 32 = true := by decide +kernel
theorem kn_ok7 : kn_al (fun a => kn_ok (a + 224)) 32 = true := by decide +kernel
theorem kn_all {n a : Nat} (h : kn_al (fun b => kn_ok (b + a)) n = true) {b : Nat} (hb : b < n) : kn_ok (b + a) = true := kn_al_s h b hb
theorem kn_bc_eq {n : Nat} (hn : n < 65536) : kn_bc n = kn_pc n := by
  have h1 : kn_ok (n / 256) = true := by
    rcases (by omega : n / 256 < 32 ∨ (32 ≤ n / 256 ∧ n / 256 < 64) ∨ (64 ≤ n / 256 ∧ n / 256 < 96) ∨ (96 ≤ n / 256 ∧ n / 256 < 128) ∨ (128 ≤ n / 256 ∧ n / 256 < 160) ∨ (160 ≤ n / 256 ∧ n / 256 < 192) ∨ (192 ≤ n / 256 ∧ n / 256 < 224) ∨ (224 ≤ n / 256 ∧ n / 256 < 256)) with h | h | h | h | h | h | h | h
    · exact kn_all kn_ok0 (b := n / 256) h
    · rw [show n / 256 = (n / 256 - 32) + 32 by omega]; exact kn_all kn_ok1 (by omega)
    · rw [show n / 256 = (n / 256 - 64) + 64 by omega]; exact kn_all kn_ok2 (by omega)
    · rw [show n / 256 = (n / 256 - 96) + 96 by omega]; exact kn_all kn_ok3 (by omega)
    · rw [show n / 256 = (n / 256 - 128) + 128 by omega]; exact kn_all kn_ok4 (by omega)
    · rw [show n / 256 = (n / 256 - 160) + 160 by omega]; exact kn_all kn_ok5 (by omega)
    · rw [show n / 256 = (n / 256 - 192) + 192 by omega]; exact kn_all kn_ok6 (by omega)
    · rw [show n / 256 = (n / 256 - 224) + 224 by omega]; exact kn_all kn_ok7 (by omega)
  have h2 := Nat.eq_of_beq_eq_true (kn_al_s (f := fun b => Nat.beq (kn_bc (256 * (n / 256) + b)) (kn_pc (256 * (n / 256) + b))) h1 (n % 256) (by omega))
  rw [show 256 * (n / 256) + n % 256 = n by omega] at h2
  exact h2
theorem nx_and (a b : Nat) : nI a &&& nI b = nI (a &&& b) := by
  apply Int32.toBitVec_inj.1
  show BitVec.ofNat 32 a &&& BitVec.ofNat 32 b = BitVec.ofNat 32 (a &&& b)
  apply BitVec.eq_of_getLsbD_eq
  intro i hi
  simp [hi]
theorem kv_ush_n {n : Nat} (hn : n < 2 ^ 32) (s : Int32) (k : Nat) (hs : ((s.toUInt32 &&& Int32.toUInt32 31).toBitVec % 32).toNat = k) : kv_ush (nI n) s = nI (n / 2 ^ k) := pk_ushrN hn s k hs
theorem kv_bc_nI {n : Nat} (hn : n < 65536) : kv_bc (nI n) = nI (kn_bc n) := by
  have e1 : kv_bc1 (nI n) = nI (kn_bc1 n) := by
    unfold kv_bc1 kn_bc1
    rw [kv_ush_n (by omega) 1 1 (by decide), show (1431655765 : Int32) = nI 1431655765 from rfl, nx_and, nI_sub (Nat.le_trans Nat.and_le_left (Nat.div_le_self _ _))]
  have b1 : kn_bc1 n < 65536 := by unfold kn_bc1; omega
  have e2 : kv_bc2 (nI (kn_bc1 n)) = nI (kn_bc2 (kn_bc1 n)) := by
    unfold kv_bc2 kn_bc2
    rw [kv_ush_n (by omega) 2 2 (by decide), show (858993459 : Int32) = nI 858993459 from rfl, nx_and, nx_and, nI_add]
  have b2 : kn_bc2 (kn_bc1 n) < 131072 := by
    unfold kn_bc2
    have := Nat.and_le_left (n := kn_bc1 n) (m := 858993459)
    have := Nat.and_le_left (n := kn_bc1 n / 4) (m := 858993459)
    omega
  have e3 : kv_bc3 (nI (kn_bc2 (kn_bc1 n))) = nI (kn_bc3 (kn_bc2 (kn_bc1 n))) := by
    unfold kv_bc3 kn_bc3
    rw [kv_ush_n (by omega) 4 4 (by decide), show (252645135 : Int32) = nI 252645135 from rfl, nI_add, nx_and]
  have b3 : kn_bc3 (kn_bc2 (kn_bc1 n)) < 262144 := by
    unfold kn_bc3
    have := Nat.and_le_left (n := kn_bc2 (kn_bc1 n) + kn_bc2 (kn_bc1 n) / 16) (m := 252645135)
    omega
  have e4 : kv_bc4 (nI (kn_bc3 (kn_bc2 (kn_bc1 n)))) = nI (kn_bc4 (kn_bc3 (kn_bc2 (kn_bc1 n)))) := by
    unfold kv_bc4 kn_bc4
    rw [kv_ush_n (by omega) 8 8 (by decide), nI_add]
  have b4 : kn_bc4 (kn_bc3 (kn_bc2 (kn_bc1 n))) < 524288 := by unfold kn_bc4; omega
  have e5 : kv_bc5 (nI (kn_bc4 (kn_bc3 (kn_bc2 (kn_bc1 n))))) = nI (kn_bc5 (kn_bc4 (kn_bc3 (kn_bc2 (kn_bc1 n))))) := by
    unfold kv_bc5 kn_bc5
    rw [kv_ush_n (by omega) 16 16 (by decide), show (63 : Int32) = nI 63 from rfl, nI_add, nx_and]
  unfold kv_bc kn_bc
  rw [e1, e2, e3, e4, e5]
def kv_pc (n : Nat) : Int32 := kp_sum (fun b => kp_b (n.testBit b = true)) 16
theorem kv_pc_n (n : Nat) : kv_pc n = nI (kn_pc n) := by
  have hb : ∀ b, kp_b (n.testBit b = true) = nI (n / 2 ^ b % 2) := fun b => by
    rw [Nat.testBit_eq_decide_div_mod_eq]
    rcases Nat.mod_two_eq_zero_or_one (n / 2 ^ b) with e | e
    · rw [e]; rfl
    · rw [e]; rfl
  unfold kv_pc kn_pc
  simp only [kp_sum, hb]
  rw [show (0 : Int32) = nI 0 from rfl]
  simp only [nI_add]
  congr 1
  simp
theorem kv_bc_s (p : Nat → Bool) : kv_bc (kb_s p 16) = kp_sum (fun b => kp_b (p b = true)) 16 := by
  have hx : kb_s p 16 = nI (kb_s p 16).toBitVec.toNat := by
    refine Int32.toBitVec_inj.1 ?_
    show _ = BitVec.ofNat 32 _
    rw [BitVec.ofNat_toNat, BitVec.setWidth_eq]
  have htb : ∀ i, i < 32 → (kb_s p 16).toBitVec.toNat.testBit i = (decide (i < 16) && p i) := fun i hi => by
    rw [← kb_bt p 16 (by omega) i hi]
    unfold bt
    rw [BitVec.getLsbD]
  have hlt : (kb_s p 16).toBitVec.toNat < 65536 := by
    refine Nat.lt_pow_two_of_testBit (n := 16) _ fun i hi => ?_
    rcases Nat.lt_or_ge i 32 with z | z
    · rw [htb i z, decide_eq_false (by omega), Bool.false_and]
    · exact Nat.testBit_lt_two_pow (Nat.lt_of_lt_of_le (kb_s p 16).toBitVec.isLt (Nat.pow_le_pow_right (by omega) z))
  have hb : kv_bc (kb_s p 16) = kv_pc (kb_s p 16).toBitVec.toNat := by
    rw [kv_pc_n, ← kn_bc_eq hlt, ← kv_bc_nI hlt, ← hx]
  rw [hb]
  unfold kv_pc
  have hsum : ∀ n, n ≤ 16 → kp_sum (fun b => kp_b ((kb_s p 16).toBitVec.toNat.testBit b = true)) n = kp_sum (fun b => kp_b (p b = true)) n := by
    intro n
    induction n with
    | zero => intro _; rfl
    | succ n ih =>
      intro hn
      show kp_sum _ n + kp_b _ = kp_sum _ n + kp_b _
      rw [ih (by omega)]
      congr 1
      have := htb n (by omega)
      rw [decide_eq_true (by omega : n < 16), Bool.true_and] at this
      unfold kp_b
      rw [this]
  exact hsum 16 (Nat.le_refl _)

/-! ===== shelves of the class stand as a new one is made ===== -/
theorem kSf.ns {h h' : ka_H} {sb sb' : Nat → Nat} {b num N : Nat} {ky : kKey} {H : Nat → Nat → Bool} {tb : Int32} (q : kSf h sb b num ky H tb) (n : kNs h h' N) (e5 : ks_r sb' ky.2.2.1 = ks_r sb ky.2.2.1) (e6 : ks_r sb' ky.2.2.2.1 = ks_r sb ky.2.2.2.1) : kSf h' sb' b num ky H tb := by
  obtain ⟨n1, n2, n3, n4, n5, n6, n7, n8, n9⟩ := n
  have hb := q.1
  exact q.st (by omega) n2 (n6 b (by omega) (by omega)) (fun k _ => congrFun (n3 b (by omega) (by omega)) k) (n3 _ (by omega) (by omega)) (n3 _ (by omega) (by omega)) e5 e6
/-- a question of the class stands as a shelf is made -/
theorem kQc.ns {h h' : ka_H} {b n N : Nat} (q : kQc h b n) (m : kNs h h' N) : kQc h' b n := by
  obtain ⟨q1, q2, q3, q4, q5, q6, q7, q8, q9, q10, q11⟩ := q
  obtain ⟨n1, n2, n3, n4, n5, n6, n7, n8, n9⟩ := m
  unfold kQc
  rw [n2 b (by omega), n2 (b + 1) (by omega), n2 (b + 2) (by omega), n2 (b + 3) (by omega), n6 b (by omega) (by omega), n3 b (by omega) (by omega)]
  exact ⟨q1, by omega, q3, q4, q5, q6, q7, q8, q9, q10, q11⟩
theorem kQc.pu {h : ka_H} {b n qb i s : Nat} {be : Int32} {r : Bool} (q : kQc h b n) (hd : b = qb ∨ b + 4 ≤ qb ∨ qb + 4 ≤ b) (hs : s + 5 ≤ b ∨ b + 4 ≤ s) : kQc (kPu h qb i s be r) b n := by
  obtain ⟨q1, q2, q3, q4, q5, q6, q7, q8, q9, q10, q11⟩ := q
  have hP : ka_P (kPu h qb i s be r) b = ka_P h b := funext fun j => ka_uN _ _ _ _ (by omega) j
  have hI : ka_I (kPu h qb i s be r) b = ka_I h b := funext fun j => (ka_uN _ _ _ _ (by omega) j).trans ((ka_uN _ _ _ _ (by omega) j).trans (ka_uN _ _ _ _ (by omega) j))
  unfold kQc
  rw [hP, hI]
  exact ⟨q1, q2, q3, q4, q5, q6, q7, q8, q9, q10, q11⟩

/-! Arrays.fill -/
theorem fill_f (f : Nat → Int32) (j : Nat) (v : Int32) : upd (fun k => if k < j then v else f k) j v = fun k => if k < j + 1 then v else f k := by
  funext k
  rw [upd_at]
  by_cases h : k = j
  · rw [if_pos h, if_pos (by omega)]
  · rw [if_neg h]
    by_cases h2 : k < j
    · rw [if_pos h2, if_pos (by omega)]
    · rw [if_neg h2, if_neg (by omega)]
theorem fill_25 {d nS : Nat} {v : Int32} {M : am_M} {Q : Option Value → am_H → Prop} : am_Wp d 299 0 [.ref 25, .int v, .retAddr 0, .retAddr 0] [] (hp nS M) Q = Q none (hp nS (am_row M 25 (fun k => if k < 8 then v else M 25 k))) := by
  rw [b_299_0]
  have e0 : am_row M 25 (fun k => if k < 0 then v else M 25 k) = M := row_id M 25
  have key := l_up 8 (fun j => am_Wp d 299 5 [.ref 25, .int v, .int (nI j), .int 8] [] (hp nS (am_row M 25 (fun k => if k < j then v else M 25 k))) Q = Q none (hp nS (am_row M 25 (fun k => if k < 8 then v else M 25 k)))) ?_ (fun j hj ih => ?_)
  · rw [e0] at key
    exact key
  · rw [b_299_5, li, if_pos (by rw [le_n (by omega) (by omega)]; omega), b_299_20]
  · rw [b_299_5, li, if_neg (by rw [le_n (by omega) (by omega)]; omega), b_299_10 (in_n (by omega) (by omega)), cl_n (by omega), up_row, fill_f, nI_1, ← li]
    exact ih
theorem fill_203 {d nS : Nat} {v : Int32} {M : am_M} {Q : Option Value → am_H → Prop} : am_Wp d 299 0 [.ref 203, .int v, .retAddr 0, .retAddr 0] [] (hp nS M) Q = Q none (hp nS (am_row M 203 (fun k => if k < 61 then v else M 203 k))) := by
  rw [b_299i1_0]
  have e0 : am_row M 203 (fun k => if k < 0 then v else M 203 k) = M := row_id M 203
  have key := l_up 61 (fun j => am_Wp d 299 5 [.ref 203, .int v, .int (nI j), .int 61] [] (hp nS (am_row M 203 (fun k => if k < j then v else M 203 k))) Q = Q none (hp nS (am_row M 203 (fun k => if k < 61 then v else M 203 k)))) ?_ (fun j hj ih => ?_)
  · rw [e0] at key
    exact key
  · rw [b_299i1_5, li, if_pos (by rw [le_n (by omega) (by omega)]; omega), b_299i1_20]
  · rw [b_299i1_5, li, if_neg (by rw [le_n (by omega) (by omega)]; omega), b_299i1_10 (in_n (by omega) (by omega)), cl_n (by omega), up_row, fill_f, nI_1, ← li]
    exact ih
theorem fill_48 {d nS : Nat} {v : Int32} {M : am_M} {Q : Option Value → am_H → Prop} : am_Wp d 299 0 [.ref 48, .int v, .retAddr 0, .retAddr 0] [] (hp nS M) Q = Q none (hp nS (am_row M 48 (fun k => if k < 6 then v else M 48 k))) := by
  rw [b_299i2_0]
  have e0 : am_row M 48 (fun k => if k < 0 then v else M 48 k) = M := row_id M 48
  have key := l_up 6 (fun j => am_Wp d 299 5 [.ref 48, .int v, .int (nI j), .int 6] [] (hp nS (am_row M 48 (fun k => if k < j then v else M 48 k))) Q = Q none (hp nS (am_row M 48 (fun k => if k < 6 then v else M 48 k)))) ?_ (fun j hj ih => ?_)
  · rw [e0] at key
    exact key
  · rw [b_299i2_5, li, if_pos (by rw [le_n (by omega) (by omega)]; omega), b_299i2_20]
  · rw [b_299i2_5, li, if_neg (by rw [le_n (by omega) (by omega)]; omega), b_299i2_10 (in_n (by omega) (by omega)), cl_n (by omega), up_row, fill_f, nI_1, ← li]
    exact ih
theorem fill_49 {d nS : Nat} {v : Int32} {M : am_M} {Q : Option Value → am_H → Prop} : am_Wp d 299 0 [.ref 49, .int v, .retAddr 0, .retAddr 0] [] (hp nS M) Q = Q none (hp nS (am_row M 49 (fun k => if k < 6 then v else M 49 k))) := by
  rw [b_299i3_0]
  have e0 : am_row M 49 (fun k => if k < 0 then v else M 49 k) = M := row_id M 49
  have key := l_up 6 (fun j => am_Wp d 299 5 [.ref 49, .int v, .int (nI j), .int 6] [] (hp nS (am_row M 49 (fun k => if k < j then v else M 49 k))) Q = Q none (hp nS (am_row M 49 (fun k => if k < 6 then v else M 49 k)))) ?_ (fun j hj ih => ?_)
  · rw [e0] at key
    exact key
  · rw [b_299i3_5, li, if_pos (by rw [le_n (by omega) (by omega)]; omega), b_299i3_20]
  · rw [b_299i3_5, li, if_neg (by rw [le_n (by omega) (by omega)]; omega), b_299i3_10 (in_n (by omega) (by omega)), cl_n (by omega), up_row, fill_f, nI_1, ← li]
    exact ih

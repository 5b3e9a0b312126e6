/-! the fields of each class stand in the tables -/
set_option maxRecDepth 20000 in
theorem zi_Answer : ∀ w ∈ u_ws zR_Answer zT_Answer 4, w ∈ ztbl := zmems [276, 278, 280, 282] (by decide +kernel) (by decide +kernel)
set_option maxRecDepth 20000 in
theorem zi_Book : ∀ w ∈ u_ws zR_Book zT_Book 6, w ∈ ztbl := zmems [166, 168, 170, 172, 174, 176] (by decide +kernel) (by decide +kernel)
set_option maxRecDepth 20000 in
theorem zi_Machine : ∀ w ∈ u_ws zR_Machine zT_Machine 1, w ∈ ztbl := zmems [123] (by decide +kernel) (by decide +kernel)
set_option maxRecDepth 20000 in
theorem zi_Net : ∀ w ∈ u_ws zR_Net zT_Net 13, w ∈ ztbl := zmems [235, 237, 239, 241, 243, 245, 247, 249, 251, 253, 255, 257, 259] (by decide +kernel) (by decide +kernel)
set_option maxRecDepth 20000 in
theorem zi_Node : ∀ w ∈ u_ws zR_Node zT_Node 11, w ∈ ztbl := zmems [588, 590, 592, 594, 596, 598, 600, 602, 604, 606, 608] (by decide +kernel) (by decide +kernel)
set_option maxRecDepth 20000 in
theorem zi_Row : ∀ w ∈ u_ws zR_Row zT_Row 2, w ∈ ztbl := zmems [102, 104] (by decide +kernel) (by decide +kernel)
set_option maxRecDepth 20000 in
theorem zi_Shorts : ∀ w ∈ u_ws zR_Shorts zT_Shorts 7, w ∈ ztbl := zmems [192, 194, 196, 198, 200, 202, 204] (by decide +kernel) (by decide +kernel)
set_option maxRecDepth 20000 in
theorem zi_Tally : ∀ w ∈ u_ws zR_Tally zT_Tally 2, w ∈ ztbl := zmems [316, 318] (by decide +kernel) (by decide +kernel)
set_option maxRecDepth 20000 in
theorem zi_Trial : ∀ w ∈ u_ws zR_Trial zT_Trial 5, w ∈ ztbl := zmems [297, 299, 301, 303, 305] (by decide +kernel) (by decide +kernel)
set_option maxRecDepth 20000 in
theorem zi_Words : ∀ w ∈ u_ws zR_Words zT_Words 3, w ∈ ztbl := zmems [137, 139, 141] (by decide +kernel) (by decide +kernel)
set_option maxRecDepth 20000 in
theorem zi_H : ∀ w ∈ u_ws zR_H zT_H 14, w ∈ ztbl := zmems [335, 337, 339, 341, 343, 345, 347, 349, 351, 353, 355, 357, 359, 361] (by decide +kernel) (by decide +kernel)
set_option maxRecDepth 20000 in
theorem zi_Mo : ∀ w ∈ u_ws zR_Mo zT_Mo 43, w ∈ ztbl := zmems [951, 953, 955, 957, 959, 961, 963, 965, 967, 969, 971, 973, 975, 977, 979, 981, 983, 985, 987, 989, 991, 993, 995, 997, 999, 1001, 1003, 1005, 1007, 1009, 1011, 1013, 1015, 1017, 1019, 1021, 1023, 1025, 1027, 1029, 1031, 1033, 1035] (by decide +kernel) (by decide +kernel)
theorem zg_in {ci : Nat} {C : String} {T : u_T} {N : Nat} (hc : zCl[ci]? = some (C, T, N)) : ∀ w ∈ u_ws C T N, w ∈ ztbl := by
  match ci, hc with
  | 0, hc => cases hc; exact zi_Answer
  | 1, hc => cases hc; exact zi_Book
  | 2, hc => cases hc; exact zi_Machine
  | 3, hc => cases hc; exact zi_Net
  | 4, hc => cases hc; exact zi_Node
  | 5, hc => cases hc; exact zi_Row
  | 6, hc => cases hc; exact zi_Shorts
  | 7, hc => cases hc; exact zi_Tally
  | 8, hc => cases hc; exact zi_Trial
  | 9, hc => cases hc; exact zi_Words
  | 10, hc => cases hc; exact zi_H
  | 11, hc => cases hc; exact zi_Mo
  | n + 12, hc => simp [zCl] at hc
theorem zg_ty {ci : Nat} {C : String} {T : u_T} {N : Nat} (hc : zCl[ci]? = some (C, T, N)) : ∃ ty0 : Nat → FieldType, ∀ k, k < N → parseFieldDescriptor (T k).2.2.1 = some (ty0 k) := by
  match ci, hc with
  | 0, hc => cases hc; exact ⟨zY_Answer, zy_Answer⟩
  | 1, hc => cases hc; exact ⟨zY_Book, zy_Book⟩
  | 2, hc => cases hc; exact ⟨zY_Machine, zy_Machine⟩
  | 3, hc => cases hc; exact ⟨zY_Net, zy_Net⟩
  | 4, hc => cases hc; exact ⟨zY_Node, zy_Node⟩
  | 5, hc => cases hc; exact ⟨zY_Row, zy_Row⟩
  | 6, hc => cases hc; exact ⟨zY_Shorts, zy_Shorts⟩
  | 7, hc => cases hc; exact ⟨zY_Tally, zy_Tally⟩
  | 8, hc => cases hc; exact ⟨zY_Trial, zy_Trial⟩
  | 9, hc => cases hc; exact ⟨zY_Words, zy_Words⟩
  | 10, hc => cases hc; exact ⟨zY_H, zy_H⟩
  | 11, hc => cases hc; exact ⟨zY_Mo, zy_Mo⟩
  | n + 12, hc => simp [zCl] at hc
theorem zg_nm {ci : Nat} {C : String} {T : u_T} {N : Nat} (hc : zCl[ci]? = some (C, T, N)) : ∀ a, a < N → ∀ b, b < N → a ≠ b → (T a).2.1 ≠ (T b).2.1 := by
  match ci, hc with
  | 0, hc => cases hc; exact zn_Answer
  | 1, hc => cases hc; exact zn_Book
  | 2, hc => cases hc; exact zn_Machine
  | 3, hc => cases hc; exact zn_Net
  | 4, hc => cases hc; exact zn_Node
  | 5, hc => cases hc; exact zn_Row
  | 6, hc => cases hc; exact zn_Shorts
  | 7, hc => cases hc; exact zn_Tally
  | 8, hc => cases hc; exact zn_Trial
  | 9, hc => cases hc; exact zn_Words
  | 10, hc => cases hc; exact zn_H
  | 11, hc => cases hc; exact zn_Mo
  | n + 12, hc => simp [zCl] at hc
theorem zg_nf {ci : Nat} {C : String} {T : u_T} {N : Nat} (hc : zCl[ci]? = some (C, T, N)) : znf ci = N ∧ ci < 12 := by
  match ci, hc with
  | 0, hc => cases hc; exact ⟨rfl, by decide⟩
  | 1, hc => cases hc; exact ⟨rfl, by decide⟩
  | 2, hc => cases hc; exact ⟨rfl, by decide⟩
  | 3, hc => cases hc; exact ⟨rfl, by decide⟩
  | 4, hc => cases hc; exact ⟨rfl, by decide⟩
  | 5, hc => cases hc; exact ⟨rfl, by decide⟩
  | 6, hc => cases hc; exact ⟨rfl, by decide⟩
  | 7, hc => cases hc; exact ⟨rfl, by decide⟩
  | 8, hc => cases hc; exact ⟨rfl, by decide⟩
  | 9, hc => cases hc; exact ⟨rfl, by decide⟩
  | 10, hc => cases hc; exact ⟨rfl, by decide⟩
  | 11, hc => cases hc; exact ⟨rfl, by decide⟩
  | n + 12, hc => simp [zCl] at hc
theorem zg_own {ci : Nat} {C : String} {T : u_T} {N : Nat} (hc : zCl[ci]? = some (C, T, N)) : ∀ k, (T k).1 = C := by
  match ci, hc with
  | 0, hc => cases hc; exact fun k => by unfold zT_Answer; split <;> rfl
  | 1, hc => cases hc; exact fun k => by unfold zT_Book; split <;> rfl
  | 2, hc => cases hc; exact fun k => by unfold zT_Machine; split <;> rfl
  | 3, hc => cases hc; exact fun k => by unfold zT_Net; split <;> rfl
  | 4, hc => cases hc; exact fun k => by unfold zT_Node; split <;> rfl
  | 5, hc => cases hc; exact fun k => by unfold zT_Row; split <;> rfl
  | 6, hc => cases hc; exact fun k => by unfold zT_Shorts; split <;> rfl
  | 7, hc => cases hc; exact fun k => by unfold zT_Tally; split <;> rfl
  | 8, hc => cases hc; exact fun k => by unfold zT_Trial; split <;> rfl
  | 9, hc => cases hc; exact fun k => by unfold zT_Words; split <;> rfl
  | 10, hc => cases hc; exact fun k => by unfold zT_H; split <;> rfl
  | 11, hc => cases hc; exact fun k => by unfold zT_Mo; split <;> rfl
  | n + 12, hc => simp [zCl] at hc
theorem zg_def {ci : Nat} {C : String} {T : u_T} {N : Nat} (hc : zCl[ci]? = some (C, T, N)) : ∃ ty0 : Nat → FieldType, (∀ k, k < N → parseFieldDescriptor (T k).2.2.1 = some (ty0 k)) ∧ ∀ k, k < N → defaultValue (ty0 k) = if zrf ci k = true then .null else .int 0 := by
  match ci, hc with
  | 0, hc => cases hc; exact ⟨zY_Answer, zy_Answer, by decide +kernel⟩
  | 1, hc => cases hc; exact ⟨zY_Book, zy_Book, by decide +kernel⟩
  | 2, hc => cases hc; exact ⟨zY_Machine, zy_Machine, by decide +kernel⟩
  | 3, hc => cases hc; exact ⟨zY_Net, zy_Net, by decide +kernel⟩
  | 4, hc => cases hc; exact ⟨zY_Node, zy_Node, by decide +kernel⟩
  | 5, hc => cases hc; exact ⟨zY_Row, zy_Row, by decide +kernel⟩
  | 6, hc => cases hc; exact ⟨zY_Shorts, zy_Shorts, by decide +kernel⟩
  | 7, hc => cases hc; exact ⟨zY_Tally, zy_Tally, by decide +kernel⟩
  | 8, hc => cases hc; exact ⟨zY_Trial, zy_Trial, by decide +kernel⟩
  | 9, hc => cases hc; exact ⟨zY_Words, zy_Words, by decide +kernel⟩
  | 10, hc => cases hc; exact ⟨zY_H, zy_H, by decide +kernel⟩
  | 11, hc => cases hc; exact ⟨zY_Mo, zy_Mo, by decide +kernel⟩
  | n + 12, hc => simp [zCl] at hc

/-! the law's world (written by gen_init.py) -/
theorem pperm {D : va_G} {cl : List vw_C} {ws ws' : va_W} {H : Heap} (h : va_P D cl ws H) (p : List.Perm ws ws') : va_P D cl ws' H := by
  intro k q hk
  obtain ⟨j, hj⟩ := List.getElem?_of_mem (p.mem_iff.mpr (List.mem_of_getElem? hk))
  exact h j q hj
theorem dperm {A : Nat → Prop} {ws ws' : va_W} (h : va_D A ws) (p : List.Perm ws ws') : va_D A ws' := by
  have nd : (ws.map Prod.fst).Nodup := by
    refine List.pairwise_iff_getElem.mpr ?_
    intro i j hi hj hij e
    have hi' : i < ws.length := by simpa using hi
    have hj' : j < ws.length := by simpa using hj
    rw [List.getElem_map, List.getElem_map] at e
    have := h.1 i j ws[i] ws[j] (List.getElem?_eq_getElem hi') (List.getElem?_eq_getElem hj') e
    omega
  have nd' : (ws'.map Prod.fst).Nodup := (p.map Prod.fst).nodup nd
  refine ⟨fun i j a b hi hj hab => ?_, fun k x hx => ?_⟩
  · have hi' := (List.getElem?_eq_some_iff.mp hi).1
    refine (List.getElem?_inj (l := ws'.map Prod.fst) (by simpa using hi') nd').mp ?_
    rw [List.getElem?_map, List.getElem?_map, hi, hj]
    show some a.1 = some b.1
    rw [hab]
  · obtain ⟨j, hj⟩ := List.getElem?_of_mem (p.mem_iff.mpr (List.mem_of_getElem? hx))
    exact h.2 j x hj
theorem blocks {α : Type} (x n : α) (b0 b1 b2 b3 b4 b5 b6 b7 b8 b9 b10 b11 b12 b13 b14 b15 b16 b17 M O : List α) : List.Perm ((x :: ([n] ++ b0 ++ b1 ++ b2 ++ b3 ++ b4 ++ b5 ++ b6 ++ b7 ++ b8 ++ b9 ++ b10 ++ b11 ++ b12 ++ b13 ++ b14 ++ b15 ++ b16 ++ b17)) ++ M ++ O) ((x :: ([n] ++ b0 ++ b1 ++ b2 ++ b3 ++ b6 ++ b7 ++ b4 ++ b5 ++ b8 ++ b9 ++ b10 ++ b11 ++ b12 ++ b13 ++ b14 ++ b15 ++ b16 ++ b17)) ++ M ++ O) := by
  simp only [List.append_assoc, List.cons_append, List.nil_append]
  refine List.Perm.cons _ (List.Perm.cons _ (List.Perm.append_left _ (List.Perm.append_left _ (List.Perm.append_left _ (List.Perm.append_left _ ?_)))))
  have h := (List.perm_append_comm (l₁ := b4 ++ b5) (l₂ := b6 ++ b7)).append_right (b8 ++ b9 ++ b10 ++ b11 ++ b12 ++ b13 ++ b14 ++ b15 ++ b16 ++ b17 ++ M ++ O)
  simpa only [List.append_assoc] using h
set_option maxHeartbeats 8000000 in
set_option maxRecDepth 100000 in
theorem law_flat {kA : Nat → ClassId} {h0 qn qo z0 z1 z2 z3 z4 : Nat} {u0 u1 u2 u3 u4 u5 u6 u7 u8 u9 u10 u11 u12 v : Nat → Nat} {ad : Nat → Nat} (e0 : ad 0 = h0) (e1 : ad 1 = qn) (e2 : ad 2 = u0 0) (e3 : ad 3 = u0 1) (e4 : ad 4 = u0 2) (e5 : ad 5 = u1 0) (e6 : ad 6 = u1 1) (e7 : ad 7 = u1 2) (e8 : ad 8 = u2 0) (e9 : ad 9 = u2 1) (e10 : ad 10 = u2 2) (e11 : ad 11 = u3 0) (e12 : ad 12 = u3 1) (e13 : ad 13 = u3 2) (e14 : ad 14 = u6 0) (e15 : ad 15 = u6 1) (e16 : ad 16 = u7 0) (e17 : ad 17 = u7 1) (e18 : ad 18 = u4 0) (e19 : ad 19 = u4 1) (e20 : ad 20 = u4 2) (e21 : ad 21 = u5 0) (e22 : ad 22 = u5 1) (e23 : ad 23 = u8 0) (e24 : ad 24 = u8 1) (e25 : ad 25 = u8 2) (e26 : ad 26 = u8 3) (e27 : ad 27 = u9 0) (e28 : ad 28 = u9 1) (e29 : ad 29 = u10 0) (e30 : ad 30 = u10 1) (e31 : ad 31 = u11 0) (e32 : ad 32 = u11 1) (e33 : ad 33 = z0) (e34 : ad 34 = z1) (e35 : ad 35 = z2) (e36 : ad 36 = z3) (e37 : ad 37 = z4) (e38 : ad 38 = u12 0) (e39 : ad 39 = u12 1) (e40 : ad 40 = u12 2) (e41 : ad 41 = u12 3) (e42 : ad 42 = u12 4) (e43 : ad 43 = u12 5) (e44 : ad 44 = v 0) (e45 : ad 45 = v 1) (e46 : ad 46 = v 2) (e47 : ad 47 = v 3) (e48 : ad 48 = v 4) (e49 : ad 49 = v 5) (e50 : ad 50 = v 6) (e51 : ad 51 = v 7) (e52 : ad 52 = v 8) (e53 : ad 53 = v 9) (e54 : ad 54 = v 10) (e55 : ad 55 = v 11) (e56 : ad 56 = v 12) (e57 : ad 57 = v 13) (e58 : ad 58 = v 14) (e59 : ad 59 = v 15) (e60 : ad 60 = v 16) (e61 : ad 61 = v 17) (e62 : ad 62 = v 18) (e63 : ad 63 = v 19) (e64 : ad 64 = qo) : wl sh ad kA μ0 = ((h0, .inr (0, [.ref qn, .ref (u4 0), .ref (u5 0), .ref (u6 0), .ref (u7 0), .ref (u8 0), .ref (u9 0), .ref (u10 0), .ref (u11 0), .ref z0, .ref z1, .ref z2, .ref z3, .ref z4, .ref (u12 0)])) :: ([(qn, .inl (kA 4, 4, .inr (.inr (.inr (.inr (fun i => some (ad (2 + 3 * i))))))))] ++ w_Net kA u0 ++ w_Net kA u1 ++ w_Net kA u2 ++ w_Net kA u3 ++ w_Text kA u6 ++ w_Numbers kA u7 ++ w_Net kA u4 ++ w_Tangle kA u5 ++ w_Layers kA u8 ++ w_Trial kA u9 ++ w_Trial kA u10 ++ w_PatternSet kA u11 ++ [(z0, zI (kA 0) 256)] ++ [(z1, zL (kA 1) 256)] ++ [(z2, zI (kA 0) 8)] ++ [(z3, zI (kA 0) 8)] ++ [(z4, zI (kA 0) 6)] ++ w_Search kA u12)) ++ w_M kA v ++ [(qo, zL (kA 1) 1)] := by
  rw [wl_first]
  simp only [e0, e1, e2, e3, e4, e5, e6, e7, e8, e9, e10, e11, e12, e13, e14, e15, e16, e17, e18, e19, e20, e21, e22, e23, e24, e25, e26, e27, e28, e29, e30, e31, e32, e33, e34, e35, e36, e37, e38, e39, e40, e41, e42, e43, e44, e45, e46, e47, e48, e49, e50, e51, e52, e53, e54, e55, e56, e57, e58, e59, e60, e61, e62, e63, e64]
  rfl

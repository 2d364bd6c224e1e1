/-! the law, from its entry (written by gen_init.py) -/
set_option maxHeartbeats 8000000 in
set_option maxRecDepth 100000 in
theorem whole_start {p : Program} {e : Env} {s : State} {m : MethodId} {below : List Frame} {meth : Method} {c : Code} (l : Launch) (hflags : l.flags = flags0) {b L : Nat} {xs : Nat → Int32} (hL : L ≤ 2560) (C0 : lw_At p s m meth c b L xs) : W p l e room_1 s m #[Value.ref b] below meth c s.heap [] 0 0 (lw_Z below #[Value.ref b] s) (entryFrame m ([Value.ref b] : List Value).toArray 8) := by
  obtain ⟨hx, hb, hr, hml, hown, hts0, hX, hbl, hlocks, hgv⟩ := id C0
  have hts : ∀ w ∈ TB, w.before #[Value.ref b] s = true := fun w hw => hts0 w (TB_sub hw)
  obtain ⟨D, kA, hK⟩ := known hts0
  obtain ⟨col, hZ, hT⟩ := start_Z hts0 hgv
  have hTh := start_T hts0 hgv
  have hst : l.stackTraces = false := by unfold Launch.stackTraces; rw [hflags]; decide
  have hNe : ∀ w ∈ nestsX, va_Nw w s := fun w hw => va_Nw.of (nestsX_t w hw) (hts0 w (nestsX_in w hw))
  have hAO : va_AO R_Net s := va_AO.of (hts0 _ ao_in)
  have hA : ∀ q : Nat, s.heap.size ≤ q → (fun q : Nat => s.heap.size ≤ q) q := fun _ h => h
  have hS : va_S (fun q : Nat => s.heap.size ≤ q) s.heap s.heap [] := va_S.rf
  have hP : va_P D classes [] s.heap := fun k q h => by simp at h
  have hD : va_D (fun q : Nat => s.heap.size ≤ q) [] := ⟨fun i j p q h => by simp at h, fun k q h => by simp at h⟩
  have hl := lv_entry ([.ref b]) (n := 8) (Nat.le_of_ble_eq_true rfl)
  rw [lg_entry_eq]
  generalize (lg_sl ([.ref b]) ++ List.replicate (8 - (lg_sl ([.ref b])).length) Slot.unset).toArray = ls at hl ⊢
  have hl : lv_has ls 8 [(0, .ref b)] := hl
  refine va_new (ci := 0) (fs := [.null, .null, .null, .null, .null, .null, .null, .null, .null, .null, .null, .null, .null, .null, .null]) (C := R_X) (T := F_X) (N := 15) hx hb hts i_X t_X t_X_ok hown (hts _ cl_L_8) (hts _ ib_X) (hts _ in_X) hK hP hD hS hA rfl df_X (Nat.le_of_ble_eq_true rfl) (Nat.le_of_ble_eq_true rfl) d_law_0 (fun q0 H hP hD hS => ?_)
  have hP : va_P D classes [(q0, .inr (0, [.null, .null, .null, .null, .null, .null, .null, .null, .null, .null, .null, .null, .null, .null, .null]))] H := hP
  have hD : va_D (fun q : Nat => s.heap.size ≤ q) [(q0, .inr (0, [.null, .null, .null, .null, .null, .null, .null, .null, .null, .null, .null, .null, .null, .null, .null]))] := hD
  refine lv_dup hx hb d_law_3 rfl ?_
  have hFc := va_free (wc := [(q0, .inr (0, [.null, .null, .null, .null, .null, .null, .null, .null, .null, .null, .null, .null, .null, .null, .null]))]) hD hS hA [0] rfl
  refine va_callv (va_runI (As := []) (rest := [.ref q0]) ⟨hx, hb, hml, hown, hts⟩ (n_X_init l D kA q0 H.size) ⟨callB_of (bytes := c_X_init) (maxL := 2) (ret := none) (ws' := TB) (index := 15) (own := R_law) 0 hts (TB_cons co_X) rfl rfl rfl (hts _ in_X) (hts _ ml_L_15) ⟨by decide, by decide, by decide +kernel⟩ ⟨Nat.le_of_ble_eq_true rfl, Nat.le_of_ble_eq_true rfl⟩, rfl, hts _ im_X⟩ ⟨PX_blind, fun U hU hW => ⟨rfl, by rw [hU], by rw [hU]; exact hP, va_K.moved hW.alike hK, hD.weaken (fun _ _ _ _ => trivial), nestsX_warm hW hNe, va_AO.moved hW.alike hAO⟩⟩ rfl rfl hl.1 rfl (lv_room (Nat.le_of_ble_eq_true rfl)) d_law_4 ⟨Nat.le_of_ble_eq_true rfl, Nat.le_of_ble_eq_true rfl⟩) hS (fun q _ h => hFc q h) hFc (fun x t H1 locs ht hvm hw hB hz1 hk1 hS => ?_)
  obtain ⟨hP1, hD1⟩ := hB
  rw [ht] at hP1
  have hD2 : va_D (fun q : Nat => s.heap.size ≤ q) (w_X kA q0 x) := hD1.weaken (fun k z hz h => hFc _ h)
  clear hP hD hD1 hFc hk1
  obtain ⟨WX, hWX⟩ : ∃ z, z = w_X kA q0 x := ⟨_, rfl⟩
  rw [← hWX] at hP1 hD2
  refine lv_astore_n (lv' := [(1, .ref q0), (0, .ref b)]) hx hb d_law_7 rfl hl (by decide) rfl (fun ls hl => ?_)
  refine va_new (ci := 9) (fs := [.int 0, .int 0, .null, .null, .null, .null, .null, .null, .int 0, .int 0, .int 0, .int 0, .null, .null, .int 0, .int 0, .null, .int 0, .null, .null, .null, .long 0, .int 0, .null, .null, .null, .null, .null, .null, .int 0, .int 0, .null]) (C := R_M) (T := F_M) (N := 32) hx hb hts i_M t_M t_M_ok hown (hts _ cl_L_16) (hts _ ib_M) (hts _ in_M) hK hP1 hD2 hS hA rfl df_M (Nat.le_of_ble_eq_true rfl) (Nat.le_of_ble_eq_true rfl) d_law_8 (fun q1 H hP hD hS => ?_)
  refine lv_dup hx hb d_law_11 rfl ?_
  have hFc : ∀ z, va_A [(q1, .inr (9, [.int 0, .int 0, .null, .null, .null, .null, .null, .null, .int 0, .int 0, .int 0, .int 0, .null, .null, .int 0, .int 0, .null, .int 0, .null, .null, .null, .long 0, .int 0, .null, .null, .null, .null, .null, .null, .int 0, .int 0, .null]))] H.size z → (fun q : Nat => s.heap.size ≤ q) z := va_free (wc := [(q1, .inr (9, [.int 0, .int 0, .null, .null, .null, .null, .null, .null, .int 0, .int 0, .int 0, .int 0, .null, .null, .int 0, .int 0, .null, .int 0, .null, .null, .null, .long 0, .int 0, .null, .null, .null, .null, .null, .null, .int 0, .int 0, .null]))]) hD hS hA [WX.length] (by simp)
  have hPc : va_P D classes [(q1, .inr (9, [.int 0, .int 0, .null, .null, .null, .null, .null, .null, .int 0, .int 0, .int 0, .int 0, .null, .null, .int 0, .int 0, .null, .int 0, .null, .null, .null, .long 0, .int 0, .null, .null, .null, .null, .null, .null, .int 0, .int 0, .null]))] H := hP.sub [WX.length] (by simp)
  have hDd : va_D (fun q : Nat => s.heap.size ≤ q) [(q1, .inr (9, [.int 0, .int 0, .null, .null, .null, .null, .null, .null, .int 0, .int 0, .int 0, .int 0, .null, .null, .int 0, .int 0, .null, .int 0, .null, .null, .null, .long 0, .int 0, .null, .null, .null, .null, .null, .null, .int 0, .int 0, .null]))] := hD.sub [WX.length] rfl (by simp)
  refine va_callv (va_runI (As := []) (rest := [.ref q1]) ⟨hx, hb, hml, hown, hts⟩ (n_M_init l D kA q1 H.size) ⟨callB_of (bytes := c_M_init) (maxL := 1) (ret := none) (ws' := TB) (index := 18) (own := R_law) 0 hts (TB_cons co_M) rfl rfl rfl (hts _ in_M) (hts _ ml_L_18) ⟨by decide, by decide, by decide +kernel⟩ ⟨Nat.le_of_ble_eq_true rfl, Nat.le_of_ble_eq_true rfl⟩, rfl, hts _ im_M⟩ ⟨Pn_blind, fun U hU hW => ⟨rfl, by rw [hU], by rw [hU]; exact hPc, va_K.moved hW.alike hK, hDd.weaken (fun _ _ _ _ => trivial)⟩⟩ rfl rfl hl.1 rfl (lv_room (Nat.le_of_ble_eq_true rfl)) d_law_12 ⟨Nat.le_of_ble_eq_true rfl, Nat.le_of_ble_eq_true rfl⟩) hS (fun q _ h => hFc q h) hFc (fun v t H2 locs ht hvm hw hB hz1 hk1 hS => ?_)
  obtain ⟨hPu, hDu⟩ := hB
  rw [ht] at hPu
  obtain ⟨hP2, hD2⟩ := jn hP hD hk1 hFc hPu hDu
  refine lv_astore_n (lv' := [(2, .ref q1), (1, .ref q0), (0, .ref b)]) hx hb d_law_15 rfl hl (by decide) rfl (fun ls hl => ?_)
  refine lv_iconst (v := 1) hx hb d_law_16 (by decide) ?_
  refine nw_arr (atype := .long) (kt := kA 1) (N' := 1) (a0 := (1, .inr (.inl (fun _ => 0)))) hx hb (hts _ ac_long) hK 1 rfl hP2 hD2 hS hA (fun _ => rfl) (by decide) (by decide) (Nat.le_of_ble_eq_true rfl) (Nat.le_of_ble_eq_true rfl) (Nat.le_of_ble_eq_true rfl) d_law_17 (fun qo H hP hD hS => ?_)
  refine lv_astore_n (lv' := [(3, .ref qo), (2, .ref q1), (1, .ref q0), (0, .ref b)]) hx hb d_law_19 rfl hl (by decide) rfl (fun ls hl => ?_)
  refine lv_iconst (v := 0) hx hb d_law_20 (by decide) ?_
  refine lv_istore (lv' := [(4, .int 0), (3, .ref qo), (2, .ref q1), (1, .ref q0), (0, .ref b)]) hx hb d_law_21 hl (by decide) rfl (fun ls hl => ?_)
  rw [hWX] at hP hD
  obtain ⟨ad, ⟨e0, e44, e64, e65, e66⟩, hPw, hDw⟩ := law_world (kA := kA) (h0 := q0) (qn := x.1) (qo := qo) (u0 := x.2.1 0) (u1 := x.2.1 1) (u2 := x.2.1 2) (u3 := x.2.1 3) (u4 := x.2.1 4) (u5 := x.2.1 5) (u6 := x.2.1 6) (u7 := x.2.1 7) (u8 := x.2.1 8) (u9 := x.2.1 9) (u10 := x.2.1 10) (u11 := x.2.1 11) (u12 := x.2.1 12) (z0 := x.2.2 0) (z1 := x.2.2 1) (z2 := x.2.2 2) (z3 := x.2.2 3) (z4 := x.2.2 4) (v := v) col b hP hD
  have hSt : StF D ad kA (fun q : Nat => s.heap.size ≤ q) s := by
    refine ⟨hK, hDw, by rw [e65]; exact hZ, by rw [e65]; exact hT, va_Nw.of rfl (hts0 _ nf1_in), va_Nw.of rfl (hts0 _ nf2_in), va_Nw.of rfl (hts0 _ nm1_in), fun q hq => ?_⟩
    obtain ⟨k, hk, rfl⟩ := hq
    have hlen : sh.length = 65 := rfl
    have hs : sh[k]? = some (sh[k]'(by rw [hlen]; exact hk)) := List.getElem?_eq_getElem _
    exact (hDw μ0).2 k _ (wl_get hs)
  have hLH : ∀ k, k ≤ 512 → LH (LG ((p, l, e), (s, m, b, below), (meth, c), (D, ad, kA)) (65 + k * 1) (7367 + k * 6)) L xs := by
    intro k hk
    refine ⟨⟨hx, hb, hml, hown, hts, hlocks, hSt⟩, ⟨Nat.le_of_ble_eq_true rfl, Nat.le_of_ble_eq_true rfl, ?_, ?_⟩, ?_, ?_, ?_⟩
    · show 65 + k * 1 ≤ 601024
      omega
    · show 7367 + k * 6 ≤ 7293034
      omega
    · show va_X (ad 66) L xs s s.heap
      rw [e66]; exact hX
    · show ad 66 < s.heap.size
      rw [e66]; exact hbl
    · show ¬ s.heap.size ≤ ad 66
      rw [e66]; exact Nat.not_le.mpr hbl
  have main := law_all (o := some ((), μ0)) 10000 (Nat.le_refl _) hL 65 7367 (Nat.le_of_ble_eq_true rfl) (Nat.le_of_ble_eq_true rfl) hst hTh hLH hr μ0 rel0
  have hl9 : lv_has ls 8 [(0, .ref b), (1, .ref q0), (2, .ref q1), (3, .ref qo), (4, .int 0)] := lv_sub hl [4, 3, 2, 1, 0] rfl
  have hl8 : lv_has ls 8 ((lvL 0).map (cvp ad)) := by
    show lv_has ls 8 [(0, .ref (ad 66)), (1, .ref (ad 0)), (2, .ref (ad 44)), (3, .ref (ad 64)), (4, .int (nI 0))]
    rw [e66, e0, e44, e64, show v 0 = q1 from hw]
    exact hl9
  refine W.widen (k := 65) (n := 7367) (Nat.le_of_ble_eq_true rfl) (Nat.le_of_ble_eq_true rfl) ?_
  exact main H _ ls () μ0 rfl hPw hS hl8

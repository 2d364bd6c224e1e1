/-! constructors: SortingNets (written by gen_init.py) -/
def nestsX : List Cond := [.methodLinkNest R_X 15 y_Net_init R_X, .methodLinkNest R_X 22 y_Tangle_init R_X, .methodLinkNest R_X 29 y_Text_init R_X, .methodLinkNest R_X 36 y_Numbers_init R_X, .methodLinkNest R_X 43 y_Layers_init R_X, .methodLinkNest R_X 50 y_Trial_init R_X, .methodLinkNest R_X 60 y_PatternSet_init R_X, .methodLinkNest R_X 84 y_Search_init R_X]
theorem nestsX_in : ∀ w ∈ nestsX, w ∈ lw_tbl := by decide +kernel
theorem nestsX_t : ∀ w ∈ nestsX, w.onTables = true := by decide +kernel
theorem df_Net : ∀ j, j < 4 → defaultValue (t_Net j) = vp_V [.int 0, .int 0, .null, .null] j := by
  intro j hj
  rcases (show j = 0 ∨ j = 1 ∨ j = 2 ∨ j = 3 by omega) with rfl | rfl | rfl | rfl <;> rfl
theorem df_Tangle : ∀ j, j < 1 → defaultValue (t_Tangle j) = vp_V [.null] j := by
  intro j hj
  rcases (show j = 0 by omega) with rfl; rfl
theorem df_Text : ∀ j, j < 2 → defaultValue (t_Text j) = vp_V [.null, .int 0] j := by
  intro j hj
  rcases (show j = 0 ∨ j = 1 by omega) with rfl | rfl <;> rfl
theorem df_Numbers : ∀ j, j < 2 → defaultValue (t_Numbers j) = vp_V [.null, .int 0] j := by
  intro j hj
  rcases (show j = 0 ∨ j = 1 by omega) with rfl | rfl <;> rfl
theorem df_Layers : ∀ j, j < 4 → defaultValue (t_Layers j) = vp_V [.null, .int 0, .null, .null] j := by
  intro j hj
  rcases (show j = 0 ∨ j = 1 ∨ j = 2 ∨ j = 3 by omega) with rfl | rfl | rfl | rfl <;> rfl
theorem df_Trial : ∀ j, j < 3 → defaultValue (t_Trial j) = vp_V [.null, .int 0, .int 0] j := by
  intro j hj
  rcases (show j = 0 ∨ j = 1 ∨ j = 2 by omega) with rfl | rfl | rfl <;> rfl
theorem df_PatternSet : ∀ j, j < 1 → defaultValue (t_PatternSet j) = vp_V [.null] j := by
  intro j hj
  rcases (show j = 0 by omega) with rfl; rfl
theorem df_Search : ∀ j, j < 10 → defaultValue (t_Search j) = vp_V [.null, .null, .null, .null, .null, .int 0, .int 0, .int 0, .int 0, .int 0] j := by
  intro j hj
  rcases (show j = 0 ∨ j = 1 ∨ j = 2 ∨ j = 3 ∨ j = 4 ∨ j = 5 ∨ j = 6 ∨ j = 7 ∨ j = 8 ∨ j = 9 by omega) with rfl | rfl | rfl | rfl | rfl | rfl | rfl | rfl | rfl | rfl <;> rfl
theorem df_M : ∀ j, j < 32 → defaultValue (t_M j) = vp_V [.int 0, .int 0, .null, .null, .null, .null, .null, .null, .int 0, .int 0, .int 0, .int 0, .null, .null, .int 0, .int 0, .null, .int 0, .null, .null, .null, .long 0, .int 0, .null, .null, .null, .null, .null, .null, .int 0, .int 0, .null] j := by
  intro j hj
  rcases (show j = 0 ∨ j = 1 ∨ j = 2 ∨ j = 3 ∨ j = 4 ∨ j = 5 ∨ j = 6 ∨ j = 7 ∨ j = 8 ∨ j = 9 ∨ j = 10 ∨ j = 11 ∨ j = 12 ∨ j = 13 ∨ j = 14 ∨ j = 15 ∨ j = 16 ∨ j = 17 ∨ j = 18 ∨ j = 19 ∨ j = 20 ∨ j = 21 ∨ j = 22 ∨ j = 23 ∨ j = 24 ∨ j = 25 ∨ j = 26 ∨ j = 27 ∨ j = 28 ∨ j = 29 ∨ j = 30 ∨ j = 31 by omega) with rfl | rfl | rfl | rfl | rfl | rfl | rfl | rfl | rfl | rfl | rfl | rfl | rfl | rfl | rfl | rfl | rfl | rfl | rfl | rfl | rfl | rfl | rfl | rfl | rfl | rfl | rfl | rfl | rfl | rfl | rfl | rfl <;> rfl
theorem df_X : ∀ j, j < 15 → defaultValue (t_X j) = vp_V [.null, .null, .null, .null, .null, .null, .null, .null, .null, .null, .null, .null, .null, .null, .null] j := by
  intro j hj
  rcases (show j = 0 ∨ j = 1 ∨ j = 2 ∨ j = 3 ∨ j = 4 ∨ j = 5 ∨ j = 6 ∨ j = 7 ∨ j = 8 ∨ j = 9 ∨ j = 10 ∨ j = 11 ∨ j = 12 ∨ j = 13 ∨ j = 14 by omega) with rfl | rfl | rfl | rfl | rfl | rfl | rfl | rfl | rfl | rfl | rfl | rfl | rfl | rfl | rfl <;> rfl
def PX (D : va_G) (kA : Nat → ClassId) (w : va_W) (sz h0 : Nat) : Array Value → State → Prop := va_Pc [.ref h0] (fun U => U.heap.size = sz ∧ va_P D classes w U.heap ∧ va_K D classes (tyA kA) U ∧ va_D (fun _ => True) w ∧ (∀ w ∈ nestsX, va_Nw w U) ∧ va_AO R_Net U)
theorem PX_blind {D : va_G} {kA : Nat → ClassId} {w : va_W} {sz h0 : Nat} : FrameBlind (PX D kA w sz h0) := by
  intro a U g mk h
  obtain ⟨q0, q1, qP, qK, qD, qN, qA⟩ := h
  exact ⟨q0, q1, qP, va_K.moved (u := U) (U := U.calling g mk a) (Vm.Alike.refl U.vm) qK, qD, fun w hw => va_Nw.same (nestsX_t w hw) (rfl : U.vm = (U.calling g mk a).vm) (qN w hw), va_AO.moved (u := U) (U := U.calling g mk a) (Vm.Alike.refl U.vm) qA⟩
section Init2
variable {p : Program} {l : Launch} {e : Env} {R : Room} {s : State} {m : MethodId} {args : Array Value} {below : List Frame} {meth : Method} {c : Code} {H H0 : Heap} {locs : List Loc} {cells slots : Nat} {Q : State → Prop} {pc : Nat} {ls : Array Slot} {rest : List Value} {D : va_G} {ws : va_W} {A : Nat → Prop}
theorem x_sub (hx : p.tables.exec = Jvm.exec) (hb : c.code = c_X_init) (hml : c.maxLocals = 2) (hown : s.vm.findClass R_X = some m.cls) (hts : ∀ w ∈ TB, w.before args s = true) (hsz : ls.size = 2) {kA : Nat → ClassId} (hK : va_K D classes (tyA kA) s)
    {C : String} {T : u_T} {N ci ik ic mc ms : Nat} {fs : List Value} {wf : (Nat → Nat) → va_W} {bytes : ByteArray}
    (hM : ∀ q sz, Met l ⟨C, "<init>", "()V"⟩ (.code ⟨C, "<init>", "()V"⟩ bytes 1 none :: TB) (rmI mc ms) (Pn D kA [(q, .inr (ci, fs))] sz q) (va_Qv (fun u : Nat → Nat => u 0 = q) (Bn D wf (va_A [(q, .inr (ci, fs))] sz)) (va_A [(q, .inr (ci, fs))] sz)) mc ms (va_A [(q, .inr (ci, fs))] sz))
    (hi : ∀ w ∈ u_ws C T N, w ∈ TB) (ty : Nat → FieldType) (hty : ∀ k, k < N → parseFieldDescriptor (T k).2.2.1 = some (ty k)) (hcl : Cond.classLink R_X ik C ∈ TB) (hib : Cond.instantiable C N ∈ TB) (hini : Cond.initialized C ∈ TB) (hc : classes[ci]? = some (C, T, N)) (hfs : ∀ j, j < N → defaultValue (ty j) = vp_V fs j) (hco : Cond.code ⟨C, "<init>", "()V"⟩ bytes 1 none ∈ TB) (him : Cond.instanceMethod ⟨C, "<init>", "()V"⟩ ∈ TB) (hne : va_Nw (.methodLinkNest R_X ic ⟨C, "<init>", "()V"⟩ R_X) s) (hd : C ≠ "java/lang/invoke/MethodHandle" ∧ C ≠ "java/lang/invoke/VarHandle")
    (hP : va_P D classes ws H) (hD : va_D A ws) (hS : va_S A H0 H locs) (hA : ∀ q, H0.size ≤ q → A q)
    (hcells : cells + 1 + mc ≤ R.cells) (hslots : slots + N + ms ≤ R.slots) (hfr : 2 ≤ R.frames) (hlo : 32 ≤ R.locals) (hcat : (rest.map fun v => v.category).sum + 1 ≤ 8)
    (d0 : decode c_X_init pc = .ok (.new ik, 3)) (d3 : decode c_X_init (pc + 3) = .ok (.dup, 1)) (d4 : decode c_X_init (pc + 4) = .ok (.invokespecial ic, 3))
    (kk : ∀ (u : Nat → Nat) (H1 : Heap) (locs1 : List Loc), va_P D classes (ws ++ wf u) H1 → va_D A (ws ++ wf u) → va_S A H0 H1 locs1 → W p l e R s m args below meth c H1 locs1 (cells + 1 + mc) (slots + N + ms) Q (F0 m (pc + 7) ls (.ref (u 0) :: rest))) :
    W p l e R s m args below meth c H locs cells slots Q (F0 m pc ls rest) := by
  refine va_new (ci := ci) (fs := fs) (C := C) (T := T) (N := N) hx hb hts hi ty hty hown (hts _ hcl) (hts _ hib) (hts _ hini) hK hP hD hS hA hc hfs (by omega) (by omega) d0 (fun q H1 hP1 hD1 hS1 => ?_)
  refine lv_dup hx hb d3 rfl ?_
  have hFc : ∀ z, va_A [(q, .inr (ci, fs))] H1.size z → A z := va_free (wc := [(q, .inr (ci, fs))]) hD1 hS1 hA [ws.length] (by simp)
  have hPc : va_P D classes [(q, .inr (ci, fs))] H1 := hP1.sub [ws.length] (by simp)
  have hDd : va_D A [(q, .inr (ci, fs))] := hD1.sub [ws.length] rfl (by simp)
  have hDc : va_D (fun _ => True) [(q, .inr (ci, fs))] := hDd.weaken (fun _ _ _ _ => trivial)
  refine va_callv (va_runIN (As := []) (rest := .ref q :: rest) (b := q) ⟨hx, hb, hml, hown, hts⟩ (hM q H1.size) ⟨va_cnB (bytes := bytes) (maxL := 1) (ret := none) (ws' := TB) (index := ic) (own := R_X) (host := R_X) 0 hts (TB_cons hco) rfl rfl rfl hne (hts _ hini) ⟨hd.1, hd.2, by show (parseMethodDescriptor "()V").map (fun d => d.parameters.length) = some 0; decide +kernel⟩ ⟨hfr, hlo⟩, rfl, hts _ him⟩ ⟨Pn_blind, fun U hU hW => ⟨rfl, by rw [hU], by rw [hU]; exact hPc, va_K.moved hW.alike hK, hDc⟩⟩ rfl rfl hsz rfl (lv_room (by rw [List.map_cons, List.sum_cons]; show 1 + (rest.map fun v => v.category).sum ≤ 8; omega)) d4 ⟨hcells, hslots⟩) hS1 (fun z _ h => hFc z h) hFc (fun u t H2 locs2 ht hvm hw hB hz1 hk1 hS2 => ?_)
  obtain ⟨hPu, hDu⟩ := hB
  rw [ht] at hPu
  obtain ⟨hP2, hD2⟩ := jn hP1 hD1 hk1 hFc hPu hDu
  have k9 := kk u H2 locs2 hP2 hD2 hS2
  rw [show u 0 = q from hw] at k9
  exact k9
end Init2
theorem q_cong {cA : ClassId} {n : Nat} {f f' : Nat → Option Nat} (h : ∀ i, i < n → f i = f' i) : vp_cell cA (n, .inr (.inr (.inr (.inr f)))) = vp_cell cA (n, .inr (.inr (.inr (.inr f')))) := by
  rw [vp_cell_q, vp_cell_q]
  unfold arrV
  have e : (fun j : Fin n => va_rf (f j.val)) = fun j => va_rf (f' j.val) := funext fun j => by rw [h j.val j.isLt]
  rw [e]
theorem w_swap {D : va_G} {cl : List vw_C} {x : Nat × va_E} {q : Nat} {k : ClassId} {a b : vp_A} {R : va_W} {H : Heap} (e : vp_cell k a = vp_cell k b) (h : va_P D cl (x :: (q, .inl (k, a)) :: R) H) : va_P D cl (x :: (q, .inl (k, b)) :: R) H := by
  intro i z hz
  match i, hz with
  | 0, hz => exact h 0 z hz
  | 1, hz =>
    cases hz
    have h1 : va_at D cl (q, .inl (k, a)) H := h 1 _ rfl
    show H[q]? = some (vp_cell k b)
    rw [← e]
    exact h1
  | i + 2, hz => exact h (i + 2) z hz
theorem w_swapD {A : Nat → Prop} {x : Nat × va_E} {q : Nat} {e e' : va_E} {R : va_W} (h : va_D A (x :: (q, e) :: R)) : va_D A (x :: (q, e') :: R) := by
  have key : ∀ (i : Nat) (z : Nat × va_E), (x :: (q, e') :: R)[i]? = some z → ∃ z', (x :: (q, e) :: R)[i]? = some z' ∧ z'.1 = z.1 := by
    intro i z hz
    match i, hz with
    | 0, hz => exact ⟨z, hz, rfl⟩
    | 1, hz => cases hz; exact ⟨_, rfl, rfl⟩
    | i + 2, hz => exact ⟨z, hz, rfl⟩
  refine ⟨fun i j a b hi hj hab => ?_, fun k z hz => ?_⟩
  · obtain ⟨a', h1, e1⟩ := key i a hi
    obtain ⟨b', h2, e2⟩ := key j b hj
    exact h.1 i j a' b' h1 h2 (by rw [e1, e2]; exact hab)
  · obtain ⟨z', h1, e1⟩ := key k z hz
    rw [← e1]
    exact h.2 k z' h1
/-- the first picture -/
def i0 : Nat → Nat → Int32 := fun p => match p with
  | 2 => fun k => match k with | 0 => 4 | _ => 0
  | 5 => fun k => match k with | 0 => 4 | _ => 0
  | 8 => fun k => match k with | 0 => 4 | _ => 0
  | 11 => fun k => match k with | 0 => 4 | _ => 0
  | 18 => fun k => match k with | 0 => 4 | _ => 0
  | 27 => fun k => match k with | 1 => 2 | 2 => 1 | _ => 0
  | 29 => fun k => match k with | 1 => 2 | 2 => 1 | _ => 0
  | 38 => fun k => match k with | 5 => 1 | _ => 0
  | 46 => upd (upd (upd (upd (fun _ => 0) (tn 0) 4) (tn 1) 4) (tn 2) 4) (tn 3) 4
  | _ => fun _ => 0
def μ0 : Mem := (i0, fun _ _ => 0, fun _ k => match k with | 27 => 61 | _ => 62)
abbrev sh44 : List Shp := sh.take 44

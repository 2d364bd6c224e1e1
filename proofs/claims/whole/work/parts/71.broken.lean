/-! a broken comparer -/
def exW (W : Nat → Nat → Int64) (i j w b : Nat) : Int64 := if w = i then W j b else if w = j then W i b else W w b
theorem sTr_exchange (N : Nat) (hN : 10000 ≤ N) {p n i j : Nat} {W : Nat → Nat → Int64} {μ : Mem} (h : TRW μ p n W) (h8 : n ≤ 8) (hi : i < n) (hj : j < n) (hij : i ≠ j) : ∃ μ', f_Trial_exchange N p (nI i) (nI j) μ = some ((), μ') ∧ TRW μ' p n (exW W i j) ∧ Fr (rg p (p + 1)) μ μ' := by
  have bb := bks_b n (by omega)
  obtain ⟨μ', ⟨k1, k2, k3, k4⟩, e⟩ := for_up (fun n' t ν => lp_Trial_exchange_2 N p (nI i) (nI j) (fun μ11 => some ((), μ11)) n' t ν) (fun ν => some ((), ν)) (bks n) (fun t κ => Fr (rg p (p + 1)) μ κ ∧ gI κ p 1 = nI n ∧ gI κ p 2 = nI (bks n) ∧ ∀ w, w < n → ∀ b, b < bks n → gL κ (p + 1) (4 * w + b) = if b < t then exW W i j w b else W w b)
    (by
      intro n' t κ ht ⟨i1, i2, i3, i4⟩
      have a1 := i4 i hi t ht
      have a2 := i4 j hj t ht
      rw [if_neg (by omega)] at a1 a2
      have z1 : ¬ 4 * j + t = 4 * i + t := (by omega)
      refine ⟨_, ?_, by simp (disch := omega) [lp_Trial_exchange_2, lt', bnd_some, ck_tt, inb_nI, tn_nI, fa_lit, nI_add, pk_mul, nI_ltI, nI_eq, i3, ht, a1, a2, gI_sI, gL_sL, gR_sR, gI_sL, gI_sR, gL_sI, gL_sR, gR_sI, gR_sL]; rfl⟩
      refine ⟨(i1.sL (rgi (by omega) (by omega))).sL (rgi (by omega) (by omega)), by simp [gI_sI, gL_sL, gR_sR, gI_sL, gI_sR, gL_sI, gL_sR, gR_sI, gR_sL, i2], by simp [gI_sI, gL_sL, gR_sR, gI_sL, gI_sR, gL_sI, gL_sR, gR_sI, gR_sL, i3], fun w hw b hb => ?_⟩
      have a := i4 w hw b hb
      by_cases e : b = t
      · subst e
        rw [if_pos (by omega)]
        unfold exW
        by_cases e1 : w = i
        · subst e1
          have : ¬ w = j := hij
          simp [gI_sI, gL_sL, gR_sR, gI_sL, gI_sR, gL_sI, gL_sR, gR_sI, gR_sL]
          intro; omega
        · by_cases e2 : w = j
          · subst e2; simp [gI_sI, gL_sL, gR_sR, gI_sL, gI_sR, gL_sI, gL_sR, gR_sI, gR_sL, e1]
          · have z1 : ¬ 4 * w + b = 4 * j + b := (by omega)
            have z2 : ¬ 4 * w + b = 4 * i + b := (by omega)
            simp only [gI_sI, gL_sL, gR_sR, gI_sL, gI_sR, gL_sI, gL_sR, gR_sI, gR_sL, e1, e2, z1, z2, and_false, if_false]
            rw [a, if_neg (by omega)]
      · have z1 : ¬ 4 * w + b = 4 * j + t := (by omega)
        have z2 : ¬ 4 * w + b = 4 * i + t := (by omega)
        simp only [gI_sI, gL_sL, gR_sR, gI_sL, gI_sR, gL_sI, gL_sR, gR_sI, gR_sL, z1, z2, and_false, if_false]
        rw [a]
        ((repeat' split) <;> first | rfl | omega | (exfalso; omega) | (congr 1; omega)))
    (by
      intro n' κ ⟨i1, i2, i3, i4⟩
      simp (disch := omega) [lp_Trial_exchange_2, lt', bnd_some, ck_tt, inb_nI, tn_nI, fa_lit, nI_add, pk_mul, nI_ltI, nI_eq, i3])
    (bks n) 0 N μ (by omega) (by omega) ⟨Fr.rf μ, h.1, h.2.1, fun w hw b hb => by rw [if_neg (by omega)]; exact h.2.2 w hw b hb⟩
  exact ⟨μ', e, ⟨k2, k3, fun w hw b hb => by rw [k4 w hw b hb, if_pos hb]⟩, k1⟩
theorem tb_exq {q i j : Nat} (hij : i ≠ j) (w : Nat) : tb (if tb q i ≠ tb q j then xr q i j else q) w = if w = i then tb q j else if w = j then tb q i else tb q w := by
  have t1 := tb_lt q i
  have t2 := tb_lt q j
  by_cases h : tb q i ≠ tb q j
  · rw [if_pos h, tb_xr hij]
    by_cases a : w = i
    · subst a; simp; omega
    · by_cases b : w = j
      · subst b; simp [a]; omega
      · simp [a, b]
  · rw [if_neg h]
    by_cases a : w = i
    · subst a; simp; omega
    · by_cases b : w = j
      · subst b; simp [a]; omega
      · simp [a, b]
theorem Bits.ex {n i j : Nat} {W : Nat → Nat → Int64} {P : Nat → Nat} (h : Bits n W P) (hi : i < n) (hj : j < n) (hij : i ≠ j) : Bits n (exW W i j) (fun x => if tb (P x) i ≠ tb (P x) j then xr (P x) i j else P x) := by
  intro w hw b hb t ht
  rw [tb_exq hij]
  unfold exW
  by_cases z1 : w = i
  · rw [if_pos z1, if_pos z1]; exact h j hj b hb t ht
  · by_cases z2 : w = j
    · rw [if_neg z1, if_pos z2, if_neg z1, if_pos z2]; exact h i hi b hb t ht
    · rw [if_neg z1, if_neg z2, if_neg z1, if_neg z2]; exact h w hw b hb t ht
theorem rs_how1 {cs : List (Nat × Nat)} {k p : Nat} : rs cs (bo k) 1 p (k + 1) = if tb (rs cs (bo k) 1 p k) (cl cs k) ≠ tb (rs cs (bo k) 1 p k) (ch cs k) then xr (rs cs (bo k) 1 p k) (cl cs k) (ch cs k) else rs cs (bo k) 1 p k := by
  rw [rs]
  unfold swp bo
  simp
theorem rs_how2 {cs : List (Nat × Nat)} {k p : Nat} : rs cs (bo k) 2 p (k + 1) = cmp (rs cs (bo k) 2 p k) (ch cs k) (cl cs k) := by
  rw [rs]
  unfold swp bo cmp
  rw [xr_comm]
  simp
theorem op_broken (N : Nat) (hN : 10000 ≤ N) (x y z : Int32) : OpEq (f_X_broken N x y z) (f_M_broken N x y z) := by
  refine op_of (fX := fun x => f_X_broken N x y z) (fM := fun x => f_M_broken N x y z) (-1) (fun x h μ => by simp [f_X_broken, f_X_isComparer, isNet_out N h, bnd_some]) (fun x h μ => by simp [f_M_broken, mNet_out N h, bnd_some, lt']) (fun s hs μ σ hw hx => ?_) x
  have w := hw.1 s hs
  have nx := hx.1 s hs
  have hl := w.2.2.1
  generalize hcs : (σ.1 s).2 = cs at *
  generalize hnn : (σ.1 s).1 = n at *
  rcases ix4 y cs.length (by omega) with hk | ⟨k, hk, rfl⟩
  · refine g_no hw hx (-1) (by simp [f_X_broken, xComp_out N nx hs hl hk, bnd_some]) (fun μ ν hν hm => ?_)
    have m := hm.1 s hs
    rw [hcs, hnn] at m
    unfold f_M_broken
    simp only [lt', ← hν]
    rw [mNet_in N hs, bnd_some, if_neg (by decide), mComp_out N m hs hl hk, bnd_some, if_pos rfl]
  rcases ix4 z 3 (by omega) with hz | ⟨how, hh, rfl⟩
  · refine g_no hw hx (-1) ?_ (fun μ ν hν hm => ?_)
    · simp only [f_X_broken, xComp_in N nx hs hk hl, i10, i00, reduceIte, lt', bnd_some, ck_tt, inb_nI, tn_nI, nI_add, pk_mul, nI_ltI, nI_eq]
      rcases hz with hz | hz
      · rw [if_pos hz]
      · by_cases h0 : z < 0
        · rw [if_pos h0]
        · rw [if_neg h0, if_pos ?_]
          exact Int32.lt_of_lt_of_le (by decide) hz
    · have m := hm.1 s hs
      rw [hcs, hnn] at m
      unfold f_M_broken
      simp only [lt', ← hν]
      rw [mNet_in N hs, bnd_some, if_neg (by decide), mComp_in N m hs hk hl, bnd_some, if_neg (by decide), mIn_out N (n := 3) (by decide) hz ν (by decide), bnd_some, if_pos rfl]
  have c := w.2.2.2 k hk
  obtain ⟨μ1, e1, t1, f1⟩ := sTr_start N hN (p := 27) w.1 w.2.1 μ
  have hq1 : NX μ1 (2 + 3 * s) n cs := nx.frg f1 (by omega)
  obtain ⟨μ2, e2, t2, f2⟩ := sTr_runPart N hN t1 hq1 w (by omega) (Nat.zero_le k) (Nat.le_of_lt hk)
  have hq2 : NX μ2 (2 + 3 * s) n cs := hq1.frg f2 (by omega)
  have bt := Bits.rp (b := bo k) (how := how) (a := 0) w (Bits.st cs _ _ w.1 w.2.1) k (by omega) (fun c _ h => by unfold bo; simp; omega)
  rw [Nat.sub_zero] at t2
  rw [Nat.zero_add] at bt
  have step : ∃ μ3 W3, (∀ (K : Mem → Option (Int32 × Mem)), (if nI how = 1 then (ck (inb (nI k) 60) (ck (inb (nI k) 60) (bnd (f_Trial_exchange N 27 (gI μ2 ((2 + 3 * s) + 1) (tn (nI k))) (gI μ2 ((2 + 3 * s) + 2) (tn (nI k))) μ2) fun _ μ34 => K μ34))) else (if nI how = 2 then (ck (inb (nI k) 60) (ck (inb (nI k) 60) (bnd (f_Trial_compare N 27 (gI μ2 ((2 + 3 * s) + 2) (tn (nI k))) (gI μ2 ((2 + 3 * s) + 1) (tn (nI k))) μ2) fun _ μ30 => K μ30))) else (K μ2))) = K μ3) ∧ TRW μ3 27 n W3 ∧ Bits n W3 (fun x => rs cs (bo k) how x (k + 1)) ∧ Fr (rg 27 28) μ2 μ3 := by
    have g1 := (hq2.2.2 k hk).1
    have g2 := (hq2.2.2 k hk).2
    have : how = 0 ∨ how = 1 ∨ how = 2 := (by omega)
    rcases this with rfl | rfl | rfl
    · refine ⟨μ2, _, fun K => ?_, t2, ?_, Fr.rf _⟩
      · rw [if_neg (by decide), if_neg (by decide)]
      · have eo : (fun x => rs cs (bo k) 0 x k) = fun x => rs cs (bo k) 0 x (k + 1) := funext fun x => rs_out.symm
        rw [← eo]
        exact bt
    · obtain ⟨μ3, e3, t3, f3⟩ := sTr_exchange N hN t2 w.2.1 (i := cl cs k) (j := ch cs k) (by omega) (by omega) (by omega)
      refine ⟨μ3, _, fun K => ?_, t3, ?_, f3⟩
      · rw [if_pos (by decide), inb_nI (show k < 60 by omega) (by omega), ck_tt, ck_tt, tn_nI (by omega), g1, g2, e3, bnd_some]
      · have := bt.ex (i := cl cs k) (j := ch cs k) (by omega) (by omega) (by omega)
        have eo : (fun x => rs cs (bo k) 1 x (k + 1)) = _ := funext fun x => rs_how1
        rw [eo]
        exact this
    · obtain ⟨μ3, e3, t3, f3⟩ := sTr_compare N hN t2 w.2.1 (i := ch cs k) (j := cl cs k) (by omega) (by omega) (by omega)
      refine ⟨μ3, _, fun K => ?_, t3, ?_, f3⟩
      · rw [if_neg (by decide), if_pos (by decide), inb_nI (show k < 60 by omega) (by omega), ck_tt, ck_tt, tn_nI (by omega), g1, g2, e3, bnd_some]
      · have := bt.cm (i := ch cs k) (j := cl cs k) (by omega) (by omega) (by omega)
        have eo : (fun x => rs cs (bo k) 2 x (k + 1)) = _ := funext fun x => rs_how2
        rw [eo]
        exact this
  obtain ⟨μ3, W3, e3, t3, b3, f3⟩ := step
  have hq3 : NX μ3 (2 + 3 * s) n cs := hq2.frg f3 (by omega)
  obtain ⟨μ4, e4, t4, f4⟩ := sTr_runPart N hN t3 hq3 w (by omega) (show k + 1 ≤ cs.length from hk) (Nat.le_refl cs.length)
  have b4 := Bits.rp (a := k + 1) w b3 (cs.length - (k + 1)) (by omega) (fun c h1 h => by unfold bo; simp; omega)
  rw [show k + 1 + (cs.length - (k + 1)) = cs.length by omega] at b4
  obtain ⟨μ5, e5, g5, f5⟩ := sTr_unsorted N hN t4 w.1 w.2.1 (by omega)
  have ps : PS μ5 (fun x => decide (x < 2 ^ n) && wr n cs (bo k) how x) := PS.un b4 w.1 w.2.1 g5
  obtain ⟨μ6, e6, r6, f6⟩ := sNum_clear N μ5
  have p6 := ps.fr f6 (fun _ => rgo (by omega))
  obtain ⟨v, e7, i7⟩ := sPS_first N hN p6
  have i8 := PS.frst w.2.1 i7
  obtain ⟨μ8, e8, r8, f8⟩ := sNum_append N v.toInt64 r6 (by simp)
  have p8 := p6.fr f8 (fun _ => rgo (by omega))
  have e9 := sPS_size N hN p8
  rw [PS.size w.2.1] at e9
  refine g_q hw hx (nI (cn (wr n cs (bo k) how) (2 ^ n))) [v.toInt64] (by simp) ⟨μ8, ?_, r8, ((((((f1.wide (by omega) (by omega)).tr (f2.wide (by omega) (by omega))).tr (f3.wide (by omega) (by omega))).tr (f4.wide (by omega) (by omega))).tr (f5.wide (by omega) (by omega))).tr (f6.wide (by omega) (by omega))).tr (f8.wide (by omega) (by omega))⟩ (fun μ ν hν hm => ?_)
  · unfold f_X_broken
    rw [xComp_in N nx hs hk hl, bnd_some, if_neg (by decide), if_neg (nI_pos (by omega)), if_neg (show ¬ (2 : Int32) < nI how from nI_nlt (a := 2) (by omega) (by omega)), inb_nI hs (by omega), ck_tt, tn_nI (by omega), nx.1, e1, bnd_some, show (0 : Int32) = nI 0 from rfl, e2, bnd_some]
    simp only [lt']
    rw [e3, hq3.2.1, nI_1, e4, bnd_some, e5, bnd_some, e6, bnd_some, e7, bnd_some, e8, bnd_some, e9, bnd_some]
  · have m := hm.1 s hs
    rw [hcs, hnn] at m
    obtain ⟨ν1, g1, i1, h1⟩ := sM_wrongs N hN m w hs (nI k) (bo k) (hbo (by omega)) how hh
    obtain ⟨ν2, g2, q2, h2⟩ := sM_tellsOne N ν1 v.toInt64
    have a : gI ν1 44 22 = v := i1.uniq i8
    refine ⟨ν2, ?_, q2, (mS_mQ (mW_mS h1)).tr (mR_mQ h2)⟩
    unfold f_M_broken
    simp only [lt', ← hν]
    rw [mNet_in N hs, bnd_some, if_neg (by decide), mComp_in N m hs hk hl, bnd_some, if_neg (by decide), mIn_in N (n := 3) hh (by decide) ν (by decide), bnd_some, if_neg (by decide), g1, bnd_some, a, g2, bnd_some]

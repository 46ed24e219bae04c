/-! THE DESK of the reference: what is owed, said, typed -/
section
variable {nl : Bool} {Ln : Nat} {xs : Nat → Int32} {d : Nat} {σ : am_S} {o o' : Nat} {D : mTop}
theorem r_owed {k day at' : Int32} {F : Int64 → am_S → Prop} (w : DskW D) (R : DskR σ o o' D) (K : ∀ σ', DskR σ' o o' (d_owed D k day at').2 → Rc o (12008 :: 12012 :: 12014 :: wF true) wA (eM true) σ σ' → F (d_owed D k day at').1 σ') : k_Rm_owed nl Ln xs (d + 419) 1053 k day at' σ F := by
  have wo := w.1.1
  have lo := R.lo
  have hK := R.k
  have hC : rCas σ o (o_cas (d_off D)) := R.2.2.1.1.2.2.2.2.2.2.2.2.2.1
  have hc100 := wo.1.c100
  have now : am_fI σ 13000 o = o_now (d_off D) := R.2.2.1.1.2.1.1
  obtain ⟨E, hE⟩ : ∃ E, E = d_owed D k day at' := ⟨_, rfl⟩
  rw [← hE] at K
  unfold d_owed at hE
  have z9 : (10949 : Int64).toInt = 10949 := by decide
  have bad : ¬ ((0 ≤ k.toInt ∧ k.toInt < (o_cas (d_off D)).length) ∧ ((d_case (d_off D) k).2.2.2.1.toInt ≤ day.toInt ∧ day.toInt ≤ 10949) ∧ ((d_case (d_off D) k).2.2.2.2.1.toInt ≤ at'.toInt ∧ at'.toInt ≤ (o_now (d_off D)).toInt) ∧ d_fnd D < 2500) → F (-9223372036854775808) σ := fun h => by
    rw [if_neg h] at hE
    rw [hE] at K
    exact K σ R Rc.rf
  refine w_Rm_owed ⟨is_mk R.m.1, R.nowis, ?_⟩
  rw [R.g]
  refine (r_isCase (d := d + 416) hK hC hc100 (fun _ => ⟨fun c0 => ⟨R.nowis, ?_⟩, fun c => bad (fun q => c (decide_eq_true (by rw [t64]; exact q.1)))⟩))
  have c0 := of_decide_eq_true c0
  rw [t64] at c0
  have hg : (o_cas (d_off D))[k.toInt.toNat]? = some (d_case (d_off D) k) := getD_some mCase0 (by omega)
  have bk : 0 ≤ k.toInt ∧ k.toInt < 100 := by omega
  rw [R.g, oG_13049 hK, ix_n c0.1, hC.2.2.2.2.1 _ _ hg]
  refine ⟨oA_13049 hK bk.1 bk.2, (r_in (fun c1 c2 => ⟨R.nowis, ?_⟩) (fun c => bad (fun q => c (by rw [t64, t64, z9]; exact q.2.1))))⟩
  rw [t64, t64] at c1
  rw [t64, z9] at c2
  rw [R.g, oG_13050 hK, hC.2.2.2.2.2.1 _ _ hg, now]
  refine ⟨oA_13050 hK bk.1 bk.2, ?_⟩
  refine (r_in (fun c3 c4 => ⟨fun c5 => ?_, fun c => bad (fun q => c (by rw [R.2.2.2.2.2.2.1.1]; exact q.2.2.2))⟩) (fun c => bad (fun q => c (by rw [t64, t64, t64]; exact q.2.2.1))))
  rw [t64, t64] at c3
  rw [t64, t64] at c4
  rw [R.2.2.2.2.2.2.1.1] at c5
  rw [if_pos ⟨c0, ⟨c1, c2⟩, ⟨c3, c4⟩, c5⟩] at hE
  intro s17 q17 s20 q20
  have r17 : Rc o [12012] [] [] σ s17 := by rw [q17]; exact Rc.sfI (by decide) (Or.inr rfl)
  have r20 : Rc o [12012, 12014] [] [] σ s20 := (r17.mono (by simp) (by simp) (by simp)).trans (by rw [q20]; exact Rc.sfI (by decide) (Or.inr rfl))
  have L20 : LkR s20 [] [] := ⟨⟨by rw [q20, rI_g (by decide), q17]; exact rI_same, fun i x hx => by simp at hx, fun i x hx => by simp at hx, fun i x hx => by simp at hx⟩, by rw [q20]; exact rI_same, fun i _ x hx => by simp at hx⟩
  have now20 : am_fR s20 12016 1053 = some o := by rw [r20.fR]; exact R.now
  rw [now20]
  have D20 : Dat s20 o (o_pol (d_off D)) (o_tel (d_off D)) (o_los (d_off D)) (o_cas (d_off D)) := R.dat.rc r20 (by decide)
  refine ⟨is_mk (hK.rc r20).2.1, ?_⟩
  have ek := n32of c0.1
  generalize d_case (d_off D) k = c at hg c1 c3
  generalize k.toInt.toNat = kn at hg hE ek
  rw [Option.getD_some, ek, show (1 : Int32) = b2i true from rfl]
  refine (r_work (d := d) (lk := true) (nf := d_fnd D) wo.1 wo.2.1 hg c1 c2 D20 (fun _ => L20) ((r20.fI (by decide)).trans R.2.2.2.2.2.2.1.1) (fun W hW s24 p st ends s' w' S24 f79 L24 hfin r24 _ => ?_))
  have now24 : am_fR s24 12016 1053 = some o := by rw [r24.fR]; exact now20
  rw [now24]
  have fnd24 : am_fI s24 12006 1053 = d_fnd D + Int32.ofNat W.2.2.2.2 := S24.2.2.2.1
  have fin24 : am_fI s24 13074 o = W.2.2.1 := S24.2.2.2.2.1
  have sum24 : am_fL s24 13078 o = m_total W.1 := S24.2.2.2.2.2.2.2.2
  refine ⟨is_mk S24.1.1.k.2.1, ?_⟩
  rw [Option.getD_some, fin24]
  intro s27 q27
  have r27 : Rc o [12008] [] [] s24 s27 := by rw [q27]; exact Rc.sfI (by decide) (Or.inr rfl)
  have e8 : am_fI s27 12008 1053 = W.2.2.1 := by rw [q27]; exact rI_same
  have rA : Rc o (12008 :: 12012 :: 12014 :: wF true) wA (eM true) σ s27 := ((r20.mono (by simp) (by simp) (by simp)).trans (r24.mono (fun x h => List.mem_cons_of_mem _ (List.mem_cons_of_mem _ (List.mem_cons_of_mem _ h))) (fun x h => h) (fun x h => h))).trans (r27.mono (by simp) (by simp) (by simp))
  have now27 : am_fR s27 12016 1053 = some o := by rw [r27.fR]; exact now24
  rw [e8, now27, Option.getD_some, (r27.fL (by decide)).trans sum24]
  refine ⟨fun _ => is_mk ((S24.1.1.k).rc r27).2.1, ?_⟩
  rintro w33 rfl
  rw [← hW] at hE
  rw [hE] at K
  refine K s27 ?_ rA
  obtain ⟨R1, R2, R3, R4, R5, R6, R7, R8⟩ := id R
  refine ⟨R1, ⟨now27, by rw [rA.fR]; exact R2.2⟩, ⟨?_, R3.2.rco rA⟩, ⟨R4.1.rc rA, R4.2.1.rc rA, R4.2.2.rc rA⟩, R5.rc rA lo (by decide) (by decide), R6.rc rA lo (by decide) (by decide), ⟨(r27.fI (by decide)).trans fnd24, (rA.fI (by decide)).trans R7.2.1, e8⟩, (L24 rfl).rc r27 lo (by decide) (by decide)⟩
  obtain ⟨hK', hN, hP, hRk, hPl, hPe, hRu, hSe, hLs, hC', hH, hG⟩ := R3.1
  have nm : ∀ {fl al : List Nat}, (fl.all (fun x => ! (12008 :: 12012 :: 12014 :: wF true).contains x) && (al.all (fun x => ! wA.contains x) && (eM true).all (fun x => decide (x < 1063)))) = true → True := fun _ => trivial
  exact ⟨hK'.rc rA, kNum.rc hN rA lo (by decide), kPol.rc hP rA lo (by decide), kRnk.rc hRk rA lo (by decide), kPla.rc hPl rA lo (by decide), kPer.rc hPe rA lo (by decide), kRul.rc hRu rA lo (by decide), kSet.rc hSe rA lo (by decide), kLos.rc hLs rA lo (by decide), kCas.rc hC' rA lo (by decide), kHel.rc hH rA lo (by decide), kLog.rc hG rA lo (by decide)⟩
theorem r_say {F : Int32 → am_S → Prop} (w : DskW D) (R : DskR σ o o' D) (K : ∀ σ', DskR σ' o o' (d_say D).2 → Rc o leF [] [1055] σ σ' → F (d_say D).1 σ') : k_Rm_say nl Ln xs (d + 6) 1053 σ F := by
  have lo := R.lo
  obtain ⟨h16, hrow⟩ := w.2.2.2.2.2
  have hk := R.2.2.2.2.2.2.2
  refine w_Rm_say ⟨is_mk R.m.1, fun s2 q2 => ?_⟩
  have r2 : Rc o leF [] [1055] σ s2 := by rw [q2]; exact Rc.sfI (by decide) (Or.inr rfl)
  have L2 : LetR s2 [] := ⟨by rw [q2]; exact rI_same, fun b hb => by simp at hb, fun i x hx => by simp at hx⟩
  have loop : ∀ (m k : Nat) (s1 : am_S), k + m = (d_lok D).2.1.length → LetR s1 (((d_lok D).2.1.take k).flatMap d_sayR) → (((d_lok D).2.1.take k).flatMap d_sayR).length ≤ 50 * k → Rc o leF [] [1055] σ s1 → c_Rm_say_7 nl Ln xs (d + 6) 1053 (Int32.ofNat k) s1 F := by
    intro m
    induction m with
    | zero =>
      intro k s1 hk1 hL1 hlen r1
      have R1 := R.let r1 hL1
      refine w_Rm_say_7 ⟨is_mk R1.m.1, ?_⟩
      rw [(r1.fI (by decide)).trans hk.1.1]
      refine ⟨fun q => ?_, fun _ => ?_⟩
      · rw [n32lt (by omega) (by omega)] at q
        omega
      · rw [hL1.1]
        rw [List.take_of_length_le (by omega)] at hL1 R1 ⊢
        exact K s1 R1 r1
    | succ m ih =>
      intro k s1 hk1 hL1 hlen r1
      have R1 := R.let r1 hL1
      obtain ⟨r, hr⟩ := get_ex (show k < (d_lok D).2.1.length by omega)
      obtain ⟨⟨hc0, hc1⟩, hc2⟩ := hrow r (List.mem_of_getElem? hr)
      have bk : 0 ≤ (Int32.ofNat k).toInt ∧ (Int32.ofNat k).toInt < 16 := by rw [n32 (by omega)]; omega
      have v1 : am_aI s1 1056 k = r.1 := (r1.aIm lo (by decide) (by decide)).trans (hk.1.2.1 _ _ hr)
      refine w_Rm_say_7 ⟨is_mk R1.m.1, ?_⟩
      rw [(r1.fI (by decide)).trans hk.1.1, mG_12009 R1.m, n32c (by omega), v1, mG_12001 R1.m, ix_n hc0, R1.2.2.2.1.2.2 _ (by omega)]
      refine ⟨fun _ => ⟨mA_12009 R1.m bk.1 bk.2, mA_12001 R1.m hc0 (by omega), ?_⟩, fun q => absurd (by rw [n32lt (by omega) (by omega)]; omega) q⟩
      have t9 := txt9 (n := r.1.toInt.toNat + 8) (by omega) (by omega)
      refine (r_put (d := d) (o := o) (by omega) R1.m hL1 (by omega) (fun s5 hL5 r5 _ => ?_))
      have M5 := R1.m.rc r5
      refine (r_put2 (o := o) M5 hL5 (by rw [List.length_append]; omega) (fun s7 hL7 r7 _ => ?_))
      have M7 := M5.rc r7
      have v7 : am_aL s7 1058 k = r.2.2 := (((r1.trans r5).trans r7).aLm lo (by decide) (by decide)).trans (hk.1.2.2.2 _ _ hr)
      rw [mG_12011 M7, v7]
      refine ⟨mA_12011 M7 bk.1 bk.2, (r_putNumber (d := d + 3) (o := o) hc2 M7 hL7 (by rw [List.length_append, List.length_append, List.length_singleton]; omega) (fun s10 hL10 r10 hd _ => ?_))⟩
      have M10 := M7.rc r10
      refine (r_put2 (o := o) M10 hL10 (by rw [List.length_append, List.length_append, List.length_append, List.length_singleton]; omega) (fun s12 hL12 r12 _ => ?_))
      rw [n32s]
      have e : ((d_lok D).2.1.take (k + 1)).flatMap d_sayR = ((d_lok D).2.1.take k).flatMap d_sayR ++ txt (r.1.toInt.toNat + 8) ++ [32 &&& 255] ++ d_num r.2.2 ++ [10 &&& 255] := by
        rw [List.take_add_one, hr, List.flatMap_append]
        show _ ++ [r].flatMap d_sayR = _
        rw [List.flatMap_singleton]
        unfold d_sayR d_rowW
        rw [show (32 : Int32) &&& 255 = 32 by decide, show (10 : Int32) &&& 255 = 10 by decide]
        simp only [List.append_assoc, List.cons_append, List.nil_append]
      refine ih (k + 1) s12 (by omega) ?_ ?_ ((((r1.trans r5).trans r7).trans r10).trans r12)
      · rw [e]; exact hL12
      · rw [e]
        simp only [List.length_append, List.length_singleton]
        omega
  exact loop (d_lok D).2.1.length 0 s2 (by omega) (by rw [List.take_zero]; exact L2) (by simp) r2
end

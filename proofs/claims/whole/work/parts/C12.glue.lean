/-! BOTH: the class's calls leave the reference as it is, and the reference's the class -/
theorem wfA_ok : ∀ (f : Nat) (M : mOff) (fnd : Int32) (l : List Int32), InvM M → pot M + 11 * l.length ≤ 100000 → d_wfA f M fnd l
  | 0, _, _, _, _, _ => trivial
  | f + 1, M, fnd, l, h, hp => by
    have h1 := rlog_le (M := M)
    have h2 := now_le h.1.1
    refine ⟨⟨h.1, by omega, by omega⟩, fun n vs t r hr => ?_⟩
    obtain ⟨hn, hl, -⟩ := rd1_len hr
    have hq := inv_act (fnd := fnd) (a := d_arg vs) (t := t) h hn.1 hn.2 (by omega)
    exact wfA_ok f _ _ r hq.1 (by have := hq.2; omega)
section
variable {D : mTop} {c : Nat}
theorem InvT.wfA (h : InvT D c) (hc : c ≤ 600) : d_wfA ((d_tap D).length - 4) m_new (d_fnd D) ((d_tap D).take ((d_tap D).length - 4)) := by
  refine wfA_ok _ _ _ _ inv_new ?_
  have : pot m_new = 0 := by decide
  have := h.2.2.2.1
  rw [List.length_take]
  omega
theorem InvT.g {nu : Nat} (h : InvT D c) (hc : c ≤ 600) (hn : nu ≤ 11000) : DskG D nu := ⟨h.1.ck, h.log hc, h.now hc, hn⟩
theorem InvT.rw (h : InvT D c) : ∀ r ∈ (d_lok D).2.1, (0 ≤ r.1.toInt ∧ r.1.toInt ≤ 12) ∧ -9223372036854775808 < r.2.2.toInt := h.2.1.1.2
theorem inv_owed {k day at' : Int32} (h : InvT D c) : InvT (d_owed D k day at').2 (c + 1) := by
  have up := h.up (show c ≤ c + 1 by omega)
  unfold d_owed
  split
  · rename_i hc
    obtain ⟨x, hx⟩ := get_ex (show k.toInt.toNat < (o_cas (d_off D)).length by omega)
    have wD := h.1.1.1.1
    have h1 := work_len (day := day) (at' := at') wD hx
    have h2 := work_cd (P := o_pol (d_off D)) (T := o_tel (d_off D)) (Ls := o_los (d_off D)) (Cs := o_cas (d_off D)) (day := day) (at' := at') (i := k.toInt.toNat)
    have h3 := work_gd (day := day) (at' := at') wD hx
    refine ⟨up.1, ⟨⟨?_, fun r hr => ⟨h2.1 r hr, h3 r hr⟩⟩, h1.1⟩, up.2.2⟩
    show (m_work (o_pol (d_off D)) (o_tel (d_off D)) (o_los (d_off D)) (o_cas (d_off D)) k.toInt.toNat day at').1.length ≤ 16
    have := h1.1
    omega
  · exact up
end
section
variable {σ s τ : am_S} {w ws : ow_T} {o o' : Nat} {D : mTop} {v b gl nu : Nat} {X : Stx} {sp : Option Nat} {g : Grw}
theorem OffK.ref (h : OffK τ o) (e : ∀ c, 1053 ≤ c → c ≤ 1188 → am_eqc τ s c) : OffK s o := by
  obtain ⟨h1, h2, h3, h4⟩ := h
  have hL : ∀ q ∈ of_L, q.2.1 < 63 := by decide +kernel
  have eo := e o (by omega) (by omega)
  refine ⟨h1, eo.kd.trans h2, eo.fR.trans h3, fun q hq => ⟨eo.fR.trans (h4 q hq).1, ?_⟩⟩
  have := hL q hq
  exact (e (o + q.2.1) (by omega) (by omega)).kd.trans (h4 q hq).2
theorem rKeep.ref {Q : am_S → Prop} {fl al : List Nat} (h : rKeep Q o fl al) (hQ : Q τ) (ho : o = 1063 ∨ o = 1126) (e : ∀ c, 1053 ≤ c → c ≤ 1188 → am_eqc τ s c) (hl : ∀ k ∈ al, k < 63) : Q s := by
  refine h τ s (fun g _ => (e o (by omega) (by omega)).fI) (fun k hk i => ?_) hQ
  have := hl k hk
  have q := e (o + k) (by omega) (by omega)
  exact ⟨q.aI, q.aL⟩
theorem OffR.ref {M : mOff} (h : OffR τ o M) (e : ∀ c, 1053 ≤ c → c ≤ 1188 → am_eqc τ s c) : OffR s o M := by
  obtain ⟨hK, hN, hP, hRk, hPl, hPe, hRu, hSe, hLs, hC, hH, hG⟩ := h
  have ho := hK.1
  exact ⟨hK.ref e, kNum.ref hN ho e (by decide), kPol.ref hP ho e (by decide), kRnk.ref hRk ho e (by decide), kPla.ref hPl ho e (by decide), kPer.ref hPe ho e (by decide), kRul.ref hRu ho e (by decide), kSet.ref hSe ho e (by decide), kLos.ref hLs ho e (by decide), kCas.ref hC ho e (by decide), kHel.ref hH ho e (by decide), kLog.ref hG ho e (by decide)⟩
theorem DskR.ref (R : DskR τ o o' D) (h : RefF τ s w) : DskR s o o' D := by
  have e : ∀ c, 1053 ≤ c → c ≤ 1188 → am_eqc τ s c := fun c h1 h2 => (h.1 c h1 h2).2
  obtain ⟨R1, R2, R3, R4, R5, R6, R7, R8⟩ := R
  have e0 := e 1053 (by decide) (by decide)
  have hL : ∀ q ∈ mo_L, 1053 ≤ q.2.1 ∧ q.2.1 ≤ 1188 := by decide +kernel
  refine ⟨R1, ⟨e0.fR.trans R2.1, e0.fR.trans R2.2⟩, ⟨R3.1.ref e, R3.2.ref e⟩, ⟨⟨e0.kd.trans R4.1.1, fun q hq => ⟨e0.fR.trans (R4.1.2 q hq).1, (e _ (hL q hq).1 (hL q hq).2).kd.trans (R4.1.2 q hq).2⟩⟩, fun k hk => (e 1061 (by decide) (by decide)).aR.trans (R4.2.1 k hk), fun k hk => (e 1062 (by decide) (by decide)).aR.trans (R4.2.2 k hk)⟩, ⟨e0.fI.trans R5.1, R5.2.1, R5.2.2.1, R5.2.2.2.eq fun i => (e 1054 (by decide) (by decide)).aI⟩, ⟨e0.fI.trans R6.1, R6.2.1, R6.2.2.eq fun i => (e 1055 (by decide) (by decide)).aI⟩, ⟨e0.fI.trans R7.1, e0.fI.trans R7.2.1, e0.fI.trans R7.2.2⟩, ⟨e0.fI.trans R8.1.1, R8.1.2.1.eq fun i => (e 1056 (by decide) (by decide)).aI, R8.1.2.2.1.eq fun i => (e 1057 (by decide) (by decide)).aI, R8.1.2.2.2.eq fun i => (e 1058 (by decide) (by decide)).aL⟩, e0.fI.trans R8.2.1, fun i hi x hx => (e 1059 (by decide) (by decide)).aI.trans (R8.2.2 i hi x hx)⟩
theorem Rfr.eff (h : Rfr σ s) (ho : OwI σ w) (hf : ∀ c, 1053 ≤ c → c ≤ 1188 → w c = (9, 9)) : Eff (fun q => q = (9, 9)) σ w s w := by
  refine ⟨fun c hc => ho c (by rw [← h.2.1]; exact hc), fun q hq _ c hc => ⟨hc, ?_⟩⟩
  have hn : ¬ (1053 ≤ c ∧ c ≤ 1188) := fun z => hq (hc.symm.trans (hf c z.1 z.2))
  obtain ⟨f1, f2⟩ := h.2.2.2 c hn
  exact ⟨by rw [h.1], fun g => ⟨(f1 g).1, (f1 g).2.1, (f1 g).2.2, (f2 g).1, (f2 g).2.1, (f2 g).2.2⟩⟩
theorem n99 {c : Nat} : ¬ ((2, c) : Nat × Nat) = (9, 9) := fun z => absurd (congrArg Prod.fst z) (show ¬ (2 : Nat) = 9 by decide)
theorem DskC.ref (R : DskC τ σ w v X b sp g gl nu D) (h : Rfr σ s) : DskC s s w v X b sp g gl nu D := by
  obtain ⟨C, hb, ht, T, ⟨tx, Tx⟩, S, ⟨⟨ov, Lk⟩, hl13⟩, A, hf, hsp, hrf⟩ := R
  have hv := A.1.2.2.2.1
  have hO := A.1.2.2.2.2.1
  have E := h.eff A.1.1.1 (fun c h1 h2 => (hrf.1 c h1 h2).1)
  have fr : ∀ c, Fr σ w s w (2, c) := fun c => E.2 (2, c) n99 (by simp)
  refine ⟨C.eff E n99 n99, hb, ((fr 1000) 1000 C.1.1).2.fI.trans ht, T.fr (fr 1001), ⟨tx, Tx.fr (fr 1003)⟩, S.fr (fr 1005), ⟨⟨ov, Lk.eqc (fun j hj => ((fr (2070 - v + j)) _ (hO _ (by unfold fixW; omega))).2)⟩, hl13⟩, ⟨⟨⟨E.1, by rw [h.2.1]; exact A.1.1.2⟩, A.1.2.1.eff E (fun q hq z => ?_), rdl_eff A.1.2.2.1 E (fun c c1 c2 z => n99 z) (fun z => absurd (congrArg Prod.fst z) (show ¬ (1 : Nat) = 9 by decide)), A.1.2.2.2.eff E (fun c hc z => n99 z)⟩, A.2.1.fr (fun j => E.bk (fun z => ?_) (by omega)), A.2.2.eq ⟨rfl, rfl, rfl, rfl⟩ ⟨h.2.1, h.2.2.1⟩⟩, ((fr 1008) 1008 (hO 1008 (by unfold fixW; omega))).2.fI.trans hf, fun b2 h2 => ⟨(hsp b2 h2).1, (hsp b2 h2).2.1, (hsp b2 h2).2.2.fr (fun j => E.bk (fun z => ?_) (by have := (hsp b2 h2).1; omega))⟩, fun c h1 h2 => ⟨(hrf.1 c h1 h2).1, am_eqc.rf⟩, hrf.2⟩
  · rw [z] at hq
    rcases hq with h | h
    · exact absurd h.1 (show ¬ (9 : Nat) = 1 by decide)
    · exact absurd (congrArg Prod.fst h) (show ¬ (9 : Nat) = 2 by decide)
  · have : b = 9 := congrArg Prod.fst z
    omega
  · have : b2 = 9 := congrArg Prod.fst z
    have := (hsp b2 h2).1
    omega
/-- what stands before each call: n calls were made -/
def LpI (σ : am_S) (n : Nat) : Prop := ∃ (o o' : Nat) (w : ow_T) (v : Nat) (X : Stx) (b : Nat) (sp : Option Nat) (g : Grw) (gl nu : Nat) (D : mTop), DskR σ o o' D ∧ DskC σ σ w v X b sp g gl nu D ∧ InvT D n ∧ nu + (d_tap D).length ≤ 8 * n ∧ (d_let D).length ≤ 200000
theorem DskC.rf (R : DskC τ s w v X b sp g gl nu D) : RefF τ s w := R.2.2.2.2.2.2.2.2.2.2
theorem lp_next {n : Nat} (C : DskC τ s w v X b sp g gl nu D) (R : DskR σ o o' D) (h : Rfr s σ) (hI : InvT D n) (hn : nu + (d_tap D).length ≤ 8 * n) (hl : (d_let D).length ≤ 200000) : LpI σ n := ⟨o, o', w, v, X, b, sp, g, gl, nu, D, R, C.ref h, hI, hn, hl⟩
end
/-! the letters -/
section
variable {D : mTop} {c : Nat}
theorem let_say (h : InvT D c) : (d_let (d_say D).2).length ≤ 200000 := by
  have h13 := h.2.1.2
  have key : ∀ l : List mRow, (∀ r ∈ l, r ∈ (d_lok D).2.1) → (l.flatMap d_sayR).length ≤ 60 * l.length := by
    intro l
    induction l with
    | nil => intro _; simp
    | cons r l ih =>
      intro hl
      have hr := h.rw r (hl r List.mem_cons_self)
      have h1 := txt_short r.1.toInt.toNat (by omega)
      have h2 := num_le r.2.2
      have h3 := ih (fun x hx => hl x (List.mem_cons_of_mem _ hx))
      have h4 : (d_sayR r).length ≤ 40 := by
        unfold d_sayR d_rowW
        rw [List.length_append, List.length_cons, List.length_append, List.length_singleton]
        omega
      rw [List.flatMap_cons, List.length_append, List.length_cons]
      omega
  have := key (d_lok D).2.1 (fun r hr => hr)
  show ((d_lok D).2.1.flatMap d_sayR).length ≤ _
  omega
theorem let_tell {p at' : Int32} (h : InvT D c) (hl : (d_let D).length ≤ 200000) : (d_let (d_tell D p at').2).length ≤ 200000 := by
  unfold d_tell
  split
  · have hC := h.1.cls p.toInt.toNat at'
    show (d_cls [] (m_cls (o_tel (d_off D)) p.toInt.toNat at')).length ≤ _
    rw [cls_tx _ [] hC.2.2 (by decide), List.nil_append]
    have key : ∀ C : List mCl, (∀ c ∈ C, ClC c) → (C.flatMap (fun c => clT c ++ [59, 10])).length ≤ cszs C := by
      intro C
      induction C with
      | nil => intro _; simp
      | cons x C ih =>
        intro hx
        have h1 := clT_len (hx x List.mem_cons_self)
        have h2 := ih (fun y hy => hx y (List.mem_cons_of_mem _ hy))
        rw [List.flatMap_cons, List.length_append, List.length_append, cszs]
        show (clT x).length + 2 + _ ≤ _
        omega
    have := key _ hC.2.2
    have := hC.2.1
    omega
  · exact hl
theorem inv_tell {p at' : Int32} (h : InvT D c) : InvT (d_tell D p at').2 c := by
  unfold d_tell
  split
  · exact h
  · exact h
theorem let_write (h : InvT D c) (hc : c ≤ 600) (hl : (d_let D).length ≤ 200000) : (d_let (d_write D).2).length ≤ 200000 := by
  unfold d_write
  split
  · exact hl
  · have := h.log hc
    show (o_log (d_off D) ++ d_hb (d_hash 0 (o_log (d_off D)))).length ≤ _
    rw [List.length_append]
    show _ + 4 ≤ _
    omega
theorem inv_write (h : InvT D c) : InvT (d_write D).2 c := by
  unfold d_write
  split
  · exact h
  · exact h
theorem let_type {w : Int64} {k : Int32} : d_let (d_type D w k).2 = d_let D := by
  unfold d_type
  split
  · rfl
  · split
    · rfl
    · split
      · rfl
      · rfl
theorem tap_type {w : Int64} {k : Int32} : (d_tap (d_type D w k).2).length ≤ (d_tap D).length + 8 := by
  unfold d_type
  split
  · exact Nat.le_add_right _ _
  · split
    · exact Nat.zero_le _
    · split
      · exact Nat.le_add_right _ _
      · show (d_tap D ++ d_bytes w k.toInt.toNat).length ≤ _
        rw [List.length_append, bytes_len]
        omega
theorem let_owed {k day at' : Int32} : d_let (d_owed D k day at').2 = d_let D ∧ d_tap (d_owed D k day at').2 = d_tap D := by
  unfold d_owed
  split
  · exact ⟨rfl, rfl⟩
  · exact ⟨rfl, rfl⟩
theorem tap_let : d_tap (d_write D).2 = d_tap D ∧ ∀ p at', d_tap (d_tell D p at').2 = d_tap D := by
  refine ⟨?_, fun p at' => ?_⟩
  · unfold d_write
    split
    · rfl
    · rfl
  · unfold d_tell
    split
    · rfl
    · rfl
theorem let_takeIn : d_let (d_takeIn D).2 = d_let D := by
  unfold d_takeIn
  split
  · rfl
  · split
    · rfl
    · split
      · rfl
      · dsimp only
        split
        · rfl
        · split
          · rfl
          · rfl
end
section
variable {T : am_T} {d x pc : Nat} {L : List (Option Value)} {st : List Value} {σ : am_S}
theorem lowI {F : Int32 → am_S → Prop} (h : am_C T d x pc L st σ (am_qI (fun a s => LowK s → F a s))) : am_C T d x pc L st σ (am_qI F) := h.monoE (fun v s hI _ hq => by
  have hl : LowK s := fun n hn => am_kd0 hI hn
  unfold am_qI at hq ⊢
  split at hq
  · exact hq hl
  · exact hq.elim)
theorem lowL {F : Int64 → am_S → Prop} (h : am_C T d x pc L st σ (am_qL (fun a s => LowK s → F a s))) : am_C T d x pc L st σ (am_qL F) := h.monoE (fun v s hI _ hq => by
  have hl : LowK s := fun n hn => am_kd0 hI hn
  unfold am_qL at hq ⊢
  split at hq
  · exact hq hl
  · exact hq.elim)
end

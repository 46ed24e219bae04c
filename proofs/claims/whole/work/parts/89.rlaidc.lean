/-! WORKING OUT, by the reference: laid -/
theorem laid_out (br : Nat → Int64) (mine : Nat) (isY : Bool) : ∀ (l : List Nat) (own left : Int64) (z : Int64 × Int64), mine ∉ l → m_laid br mine isY own left z l = z
  | [], own, left, z, _ => rfl
  | k :: l, own, left, z, h => by
    rw [List.mem_cons, not_or] at h
    rw [m_laid]
    simp only []
    rw [if_neg (show ¬ k = mine from fun q => h.1 q.symm)]
    exact laid_out br mine isY l _ _ z h.2
section
variable {nl : Bool} {Ln : Nat} {xs : Nat → Int32} {d : Nat} {σ : am_S} {o : Nat} {P : List mPol} {T : List mTell} {Ls : List mLoss} {Cs : List mCase} {i : Nat} {c : mCase} {day at' : Int32} {lk : Bool} {p : Nat} {st : Option Nat} {nf fnd : Int32} {ends : Bool} {s worth : Int64} {rows : List mRow} {tr : List Int32}
theorem r_laidS {x1 x3 x9 x11 x16 x18 : Int64} {x5 x6 x7 x8 x13 x14 : Int32} {x21 x22 x23 x24 x25 x26 : Option Value} {k y : Nat} {l : List Nat} {br : Nat → Int64} {F : am_S → Prop} (hK : OffK σ o) (h57 : rwI σ (o + 57) l (fun x => Int32.ofNat x)) (h58 : ∀ y ∈ l, am_aL σ (o + 58) y = br y) (h100 : ∀ y ∈ l, y < 100) (hl : l.length ≤ 100) (hy : l[k]? = some y)
    (K : ∀ g b : Int64, g = m_least (br y) x16 → b = (if decide (x3 ≠ -1) = true ∧ x18 < br y - g then br y - g - x18 else 0) → ∀ z21 z23 z25, (Int32.ofNat y = x5 → k_Ro_less nl Ln xs d o 8 0 g σ (fun σ6 => am_ext σ σ6 → k_Ro_less nl Ln xs d o 9 0 b σ6 (fun σ8 => am_ext σ6 σ8 → c_Ro_laid_284 nl Ln xs (d + 1) o x1 x3 x5 x6 x7 x8 x9 x11 x13 x14 (Int32.ofNat l.length) (x16 - g) (x18 - (br y - g - b)) (Int32.ofNat (k + 1)) z21 none z23 none z25 none σ8 F))) ∧ (¬ Int32.ofNat y = x5 → c_Ro_laid_284 nl Ln xs (d + 1) o x1 x3 x5 x6 x7 x8 x9 x11 x13 x14 (Int32.ofNat l.length) (x16 - g) (x18 - (br y - g - b)) (Int32.ofNat (k + 1)) z21 none z23 none z25 none σ F)) :
    c_Ro_laid_284 nl Ln xs (d + 1) o x1 x3 x5 x6 x7 x8 x9 x11 x13 x14 (Int32.ofNat l.length) x16 x18 (Int32.ofNat k) x21 x22 x23 x24 x25 x26 σ F := by
  have hkl := lt_of_get hy
  have hy100 := h100 y (List.mem_of_getElem? hy)
  have bk : 0 ≤ (Int32.ofNat k).toInt ∧ (Int32.ofNat k).toInt < 100 := by rw [n32 (by omega)]; omega
  have by' : 0 ≤ (Int32.ofNat y).toInt ∧ (Int32.ofNat y).toInt < 100 := by rw [n32 (by omega)]; omega
  have v : am_aI σ (o + 57) k = Int32.ofNat y := h57 k y hy
  have v8 := h58 y (List.mem_of_getElem? hy)
  refine w_Ro_laid_284 ?_
  rw [oG_13085 hK, oG_13086 hK, n32c (show k < 2147483648 by omega), v, n32c (show y < 2147483648 by omega), v8, n32lt (by omega) (by omega)]
  refine ⟨fun _ => ⟨is_mk hK.2.1, oA_13085 hK bk.1 bk.2, oA_13086 hK by'.1 by'.2, fun _ => oA_13085 hK bk.1 bk.2, fun _ => oA_13086 hK by'.1 by'.2, ?_⟩, fun q => absurd hkl q⟩
  intro g eg
  have eg : g = m_least (br y) x16 := eg
  refine w_Ro_laid_326 ?_
  rw [oG_13085 hK, oG_13086 hK, n32c (show k < 2147483648 by omega), v, n32c (show y < 2147483648 by omega), v8]
  rintro v1 rfl
  refine ⟨is_mk hK.2.1, oA_13085 hK bk.1 bk.2, oA_13086 hK by'.1 by'.2, ?_⟩
  rintro v6 rfl b eb
  have eb : b = (if decide (x3 ≠ -1) = true ∧ x18 < br y - g then br y - g - x18 else 0) := by
    rw [eb]
    by_cases h3 : x3 = -1
    · rw [if_pos h3, if_neg (by simp [h3])]
    · rw [if_neg h3]
      by_cases h8 : x18 < br y - g
      · rw [if_pos h8, if_pos ⟨by simp [h3], h8⟩]
      · rw [if_neg h8, if_neg (fun q => h8 q.2)]
  refine w_Ro_laid_377 ?_
  rw [oG_13085 hK, n32c (show k < 2147483648 by omega), v, n32s]
  rintro v1 rfl
  refine ⟨is_mk hK.2.1, oA_13085 hK bk.1 bk.2, ?_⟩
  exact K g b eg eb _ _ _
theorem r_laidB {x1 x3 x9 x11 : Int64} {x6 x7 x8 x13 x14 : Int32} {l : List Nat} {br : Nat → Int64} {F : am_S → Prop} (h100 : ∀ y ∈ l, y < 100) (hl : l.length ≤ 100) (hi : i < 100) (hnd : l.Nodup) (hlen : rows.length ≤ 13) (Z : Int64 × Int64)
    (K : ∀ σ' , Es σ' o P T Ls Cs i c day at' lk p st nf fnd ends (m_less (m_less (rows, s) 8 0 Z.1) 9 0 Z.2).2 worth (m_less (m_less (rows, s) 8 0 Z.1) 9 0 Z.2).1 tr → Rc o (eF lk) eA (eM lk) σ σ' → F σ') :
    ∀ (n k : Nat) (x16 x18 : Int64) (x21 x22 x23 x24 x25 x26 : Option Value), k + n = l.length → Es σ o P T Ls Cs i c day at' lk p st nf fnd ends s worth rows tr → rwI σ (o + 57) l (fun x => Int32.ofNat x) → (∀ y ∈ l, am_aL σ (o + 58) y = br y) → Z = m_laid br i (decide (x3 ≠ -1)) x16 x18 (0, 0) (l.drop k) → c_Ro_laid_284 nl Ln xs (d + 3) o x1 x3 (Int32.ofNat i) x6 x7 x8 x9 x11 x13 x14 (Int32.ofNat l.length) x16 x18 (Int32.ofNat k) x21 x22 x23 x24 x25 x26 σ F := by
  have after : ∀ (n k : Nat) (σ1 : am_S) (x16 x18 : Int64) (x21 x22 x23 x24 x25 x26 : Option Value), k + n = l.length → OffK σ1 o → i ∉ l.drop k → rwI σ1 (o + 57) l (fun x => Int32.ofNat x) → (∀ y ∈ l, am_aL σ1 (o + 58) y = br y) → F σ1 → c_Ro_laid_284 nl Ln xs (d + 3) o x1 x3 (Int32.ofNat i) x6 x7 x8 x9 x11 x13 x14 (Int32.ofNat l.length) x16 x18 (Int32.ofNat k) x21 x22 x23 x24 x25 x26 σ1 F := by
    intro n
    induction n with
    | zero =>
      intro k σ1 x16 x18 x21 x22 x23 x24 x25 x26 hk hK _ _ _ hF
      refine w_Ro_laid_284 ⟨?_, fun _ => hF⟩
      rw [n32lt (by omega) (by omega)]
      exact fun q => absurd q (by omega)
    | succ n ih =>
      intro k σ1 x16 x18 x21 x22 x23 x24 x25 x26 hk hK hni h57 h58 hF
      obtain ⟨y, hy⟩ := get_ex (show k < l.length by omega)
      have hd := drop_get hy
      rw [hd, List.mem_cons, not_or] at hni
      have hy100 := h100 y (List.mem_of_getElem? hy)
      refine r_laidS hK h57 h58 h100 hl hy (fun g b _ _ z1 z2 z3 => ?_)
      rw [n32i (by omega) (by omega)]
      exact ⟨fun q => absurd q.symm hni.1, fun _ => ih (k + 1) σ1 _ _ _ _ _ _ _ _ (by omega) hK hni.2 h57 h58 hF⟩
  intro n
  induction n with
  | zero =>
    intro k x16 x18 x21 x22 x23 x24 x25 x26 hk S h57 h58 hZ
    rw [List.drop_eq_nil_of_le (by omega)] at hZ
    refine w_Ro_laid_284 ⟨?_, fun _ => K σ ?_ Rc.rf⟩
    · rw [n32lt (by omega) (by omega)]
      exact fun q => absurd q (by omega)
    · rw [hZ]
      exact S
  | succ n ih =>
    intro k x16 x18 x21 x22 x23 x24 x25 x26 hk S h57 h58 hZ
    obtain ⟨y, hy⟩ := get_ex (show k < l.length by omega)
    have hd := drop_get hy
    have hy100 := h100 y (List.mem_of_getElem? hy)
    have hK := S.1.1.k
    have lo := hK.lo
    rw [hd] at hZ
    refine r_laidS hK h57 h58 h100 hl hy (fun g b eg eb z1 z2 z3 => ?_)
    have hZ2 : Z = m_laid br i (decide (x3 ≠ -1)) (x16 - g) (x18 - (br y - g - b)) (if y = i then (g, b) else (0, 0)) (l.drop (k + 1)) := by
      rw [hZ, eb, eg]
      rfl
    rw [n32i (by omega) (by omega)]
    refine ⟨fun hyi => ?_, fun hyi => ?_⟩
    · have hni : i ∉ l.drop (k + 1) := by
        have : (l.drop k).Nodup := hnd.sublist (List.drop_sublist k l)
        rw [hd, List.nodup_cons, hyi] at this
        exact this.1
      rw [if_pos hyi, laid_out br i _ _ _ _ _ hni] at hZ2
      refine r_less S (by omega) (fun s6 S6 r6 _ => ?_)
      have l6 := less_len (rs := (rows, s)) (code := 8) (arg := 0) (cents := g)
      refine r_less S6 (by simp only at l6; omega) (fun s8 S8 r8 _ => ?_)
      have r := r6.trans r8
      have hF : F s8 := K s8 (by rw [hZ2]; exact S8) r
      exact after n (k + 1) s8 _ _ _ _ _ _ _ _ (by omega) (hK.rc r) hni (h57.eq fun z => r.aI lo (eM_lt lk) (by decide)) (fun y hy => (r.aL lo (eM_lt lk) (by decide)).trans (h58 y hy)) hF
    · rw [if_neg hyi] at hZ2
      exact ih (k + 1) _ _ _ _ _ _ _ _ (by omega) S h57 h58 hZ2
theorem r_laid {own left : Int64} {j : Nat} {F : am_S → Prop} (w : WfD P T Ls Cs) (hH : WfH T) (hp : p < P.length) (hj : j < (tlA T 6).length) (hlen : rows.length ≤ 13) (S : Es σ o P T Ls Cs i c day at' lk p (some j) nf 0 false s worth rows tr)
    (K : ∀ L, L = m_ordL P T Ls Cs c day at' p (clOf T (some j)) i → ∀ Z, Z = m_laid (m_brings P T Ls Cs day at' i s) i (decide (left ≠ -1)) (if own = -1 then 0 else own) left (0, 0) L → ∀ σ' w', Es σ' o P T Ls Cs i c day at' lk p (some j) (nf + Int32.ofNat (m_met P T Ls Cs day at' i L)) 0 false (m_less (m_less (rows, s) 8 0 Z.1) 9 0 Z.2).2 w' (m_less (m_less (rows, s) 8 0 Z.1) 9 0 Z.2).1 tr → Rc o (lF lk) wA (eM lk) σ σ' → F σ') : k_Ro_laid nl Ln xs (d + 417) o own left σ F := by
  have hE := S.1
  have hi := hE.2.1
  have D := hE.1
  have hK := D.k
  have lo := hK.lo
  have h100 := w.c100
  have hlt := lt_of_get hi
  have hw := w.c hi
  have h200 := w.l200
  refine w_Ro_laid ⟨is_mk hK.2.1, ?_⟩
  rw [hE.2.2.1, S.2.1, S.2.2.1]
  rintro v2 rfl v4 rfl v6 rfl
  refine r_lossYear D w hi (fun _ => ?_)
  rw [S.2.2.2.2.2.2.1, S.2.2.2.2.2.2.2.2]
  intro v10 e10 v12 e12
  rw [e10, e12]
  refine r_lastBy w D hj S.2.2.1 (fun _ => ?_)
  have hm : am_fR σ 13099 o = some 1053 := hK.2.2.1
  rw [hm, Option.getD_some, hE.2.2.2.2.2.2.1]
  refine ⟨is_mk D.m.1, ?_⟩
  rintro v21 rfl
  intro s23 q23
  have r23 : Rc o (lF false) wA [] σ s23 := by rw [q23]; exact Rc.sfI (by decide) (Or.inr rfl)
  have r23' : Rc o [12015] [] [] σ s23 := by rw [q23]; exact Rc.sfI (by decide) (Or.inr rfl)
  have eby : (if m_by (clOf T (some j)) = 11 then (1 : Int32) else 0) = b2i (decide (m_by (clOf T (some j)) = 11)) := by
    by_cases h : m_by (clOf T (some j)) = 11 <;> simp [h, b2i]
  rw [eby]
  refine r_laidA (nf := nf) w hH D hp hlt rfl rfl rfl rfl ?_ Cs.length 0 s23 (by omega) ⟨r23, by rw [q23]; exact rI_same, (r23'.fI (by decide)).trans hE.2.2.2.2.1, (r23'.fI (by decide)).trans hE.2.2.2.2.2.1, fun q y hq => by simp [m_lay] at hq, fun y hy => absurd hy List.not_mem_nil, ?_⟩
  · intro s1 L
    obtain ⟨lr, l15, l72, l73, l57, l58, lnf⟩ := L
    have eL : m_lay (fun k => decide (¬ day < (Cs.getD k mCase0).2.2.2.1) && m_of P T Ls (m_year (m_ld Ls c)) at' p (Cs.getD k mCase0)) (fun k => m_key Ls day at' (decide (m_by (clOf T (some j)) = 11)) (Cs.getD k mCase0)) Cs.length = m_ordL P T Ls Cs c day at' p (clOf T (some j)) i := rfl
    have hnd := lay_nodup (fun k => decide (¬ day < (Cs.getD k mCase0).2.2.2.1) && m_of P T Ls (m_year (m_ld Ls c)) at' p (Cs.getD k mCase0)) (fun k => m_key Ls day at' (decide (m_by (clOf T (some j)) = 11)) (Cs.getD k mCase0)) Cs.length
    have hlen' := lay_len (fun k => decide (¬ day < (Cs.getD k mCase0).2.2.2.1) && m_of P T Ls (m_year (m_ld Ls c)) at' p (Cs.getD k mCase0)) (fun k => m_key Ls day at' (decide (m_by (clOf T (some j)) = 11)) (Cs.getD k mCase0)) Cs.length
    have hltL := lay_lt (fun k => decide (¬ day < (Cs.getD k mCase0).2.2.2.1) && m_of P T Ls (m_year (m_ld Ls c)) at' p (Cs.getD k mCase0)) (fun k => m_key Ls day at' (decide (m_by (clOf T (some j)) = 11)) (Cs.getD k mCase0)) Cs.length
    rw [eL] at l57 l58 lnf hnd hlen' hltL ⊢
    obtain ⟨L, hL⟩ : ∃ L, L = m_ordL P T Ls Cs c day at' p (clOf T (some j)) i := ⟨_, rfl⟩
    rw [← hL] at l57 l58 lnf hnd hlen' hltL ⊢
    have D1 := D.rc lr (by decide)
    have bi : 0 ≤ (Int32.ofNat i).toInt ∧ (Int32.ofNat i).toInt < 100 := by rw [n32 (by omega)]; omega
    refine w_Ro_laid_79 ⟨is_mk D1.k.2.1, ?_, fun _ => ?_⟩
    · rw [D1.cas.1, n32lt (by omega) (by omega)]
      exact fun h => absurd h (by omega)
    · have hm1 : am_fR s1 13099 o = some 1053 := D1.k.2.2.1
      rw [hm1, Option.getD_some]
      refine ⟨is_mk D1.m.1, by cases lk <;> simp [b2i], ?_⟩
      intro s26 q26 s29 q29
      have r26 : Rc o [12015] [] [] s1 s26 := by rw [q26]; exact Rc.sfI (by decide) (Or.inr rfl)
      have r29 : Rc o [13068] [] [] s26 s29 := by rw [q29]; exact Rc.sfI (by decide) (Or.inl rfl)
      have a15 : am_fI s26 12015 1053 = b2i lk := by rw [q26]; exact rI_same
      have a68 : am_fI s29 13068 o = Int32.ofNat i := by rw [q29]; exact rI_same
      have hK29 : OffK s29 o := (D1.k.rc r26).rc r29
      have v29 : am_aI s29 (o + 38) i = Int32.ofNat c.2.2.1 := (r29.aI lo (by simp) (by simp)).trans ((r26.aI lo (by simp) (by simp)).trans (D1.cas.2.2.2.1 i _ hi))
      rw [oG_13048 hK29, a68, n32c (by omega), v29]
      refine ⟨oA_13048 hK29 bi.1 bi.2, ?_⟩
      intro s33 q33 s36 q36 s39 q39 s42 q42 s45 q45 s48 q48 s51 q51 w56 e56
      have r33 : Rc o [13069] [] [] s29 s33 := by rw [q33]; exact Rc.sfI (by decide) (Or.inl rfl)
      have r36 : Rc o [13070] [] [] s33 s36 := by rw [q36]; exact Rc.sfI (by decide) (Or.inl rfl)
      have r39 : Rc o [13071] [] [] s36 s39 := by rw [q39]; exact Rc.sfI (by decide) (Or.inl rfl)
      have r42 : Rc o [13074] [] [] s39 s42 := by rw [q42]; exact Rc.sfI (by decide) (Or.inl rfl)
      have r45 : Rc o [13075] [] [] s42 s45 := by rw [q45]; exact Rc.sfI (by decide) (Or.inl rfl)
      have r48 : Rc o [13077] [] [] s45 s48 := by rw [q48]; exact Rc.sfL (by decide) (Or.inl rfl)
      have r51 : Rc o [13078] [] [] s48 s51 := by rw [q51]; exact Rc.sfL (by decide) (Or.inl rfl)
      have a69 : am_fI s33 13069 o = Int32.ofNat c.2.2.1 := by rw [q33]; exact rI_same
      have a70 : am_fI s36 13070 o = Int32.ofNat p := by rw [q36]; exact rI_same
      have a71 : am_fI s39 13071 o = ixO (some j) := by rw [q39]; exact rI_same
      have a74 : am_fI s42 13074 o = 0 := by rw [q42]; exact rI_same
      have a75 : am_fI s45 13075 o = 0 := by rw [q45]; exact rI_same
      have a77 : am_fL s48 13077 o = s := by rw [q48]; exact rL_same
      have a78 : am_fL s51 13078 o = m_total rows := by rw [q51]; exact rL_same
      have big : ∀ {fs : List Nat} {σ σ1 : am_S}, Rc o fs [] [] σ σ1 → (∀ x ∈ fs, x ∈ [12015, 13068, 13069, 13070, 13071, 13074, 13075, 13077, 13078]) → Rc o [12015, 13068, 13069, 13070, 13071, 13074, 13075, 13077, 13078] [] [] σ σ1 := fun h h1 => h.mono h1 (by simp) (by simp)
      have r33' : Rc o [12015, 13068, 13069, 13070, 13071, 13074, 13075, 13077, 13078] [] [] s29 s51 := ((((((big r33 (by decide)).trans (big r36 (by decide))).trans (big r39 (by decide))).trans (big r42 (by decide))).trans (big r45 (by decide))).trans (big r48 (by decide))).trans (big r51 (by decide))
      have rb : Rc o [12015, 13068, 13069, 13070, 13071, 13074, 13075, 13077, 13078] [] [] s1 s51 := ((big r26 (by decide)).trans (big r29 (by decide))).trans r33'
      have rall : Rc o (lF false) wA [] σ s51 := lr.trans (rb.mono (by decide) (by simp) (by simp))
      have hLk : Lk s51 lk rows tr := by
        obtain ⟨-, e7⟩ := hE.2.2.2.2.2.2
        refine ⟨(r51.fI (by decide)).trans ((r48.fI (by decide)).trans ((r45.fI (by decide)).trans ((r42.fI (by decide)).trans ((r39.fI (by decide)).trans ((r36.fI (by decide)).trans ((r33.fI (by decide)).trans ((r29.fI (by decide)).trans a15))))))), fun hl => ⟨⟨(rall.fI (by decide)).trans (e7 hl).1.1, (e7 hl).1.2.1.eq fun i => rall.aIm lo (by decide) (by simp), (e7 hl).1.2.2.1.eq fun i => rall.aIm lo (by decide) (by simp), (e7 hl).1.2.2.2.eq fun i => rall.aLm lo (by decide) (by simp)⟩, (rall.fI (by decide)).trans (e7 hl).2.1, fun i hi x hx => (rall.aIm lo (by decide) (by simp)).trans ((e7 hl).2.2 i hi x hx)⟩⟩
      have S51 : Es s51 o P T Ls Cs i c day at' lk p (some j) (nf + Int32.ofNat (m_met P T Ls Cs day at' i L)) 0 false s (am_fL s51 13076 o) rows tr := by
        refine ⟨⟨D.rc rall (by decide), hi, ?_, ?_, (rb.fI (by decide)).trans l72, (rb.fI (by decide)).trans l73, hLk⟩, ?_, ?_, (rb.fI (by decide)).trans lnf, ?_, ?_, ?_, rfl, a78⟩
        · exact (r51.fI (by decide)).trans ((r48.fI (by decide)).trans ((r45.fI (by decide)).trans ((r42.fI (by decide)).trans ((r39.fI (by decide)).trans ((r36.fI (by decide)).trans ((r33.fI (by decide)).trans a68))))))
        · exact (r51.fI (by decide)).trans ((r48.fI (by decide)).trans ((r45.fI (by decide)).trans ((r42.fI (by decide)).trans ((r39.fI (by decide)).trans ((r36.fI (by decide)).trans a69)))))
        · exact (r51.fI (by decide)).trans ((r48.fI (by decide)).trans ((r45.fI (by decide)).trans ((r42.fI (by decide)).trans ((r39.fI (by decide)).trans a70))))
        · exact (r51.fI (by decide)).trans ((r48.fI (by decide)).trans ((r45.fI (by decide)).trans ((r42.fI (by decide)).trans a71)))
        · exact (r51.fI (by decide)).trans ((r48.fI (by decide)).trans ((r45.fI (by decide)).trans a74))
        · exact (r51.fI (by decide)).trans ((r48.fI (by decide)).trans a75)
        · exact (r51.fL (by decide)).trans a77
      refine r_laidB (br := m_brings P T Ls Cs day at' i s) (fun y hy => by have := (hltL y hy).1; omega) (by omega) (by omega) hnd hlen _ (fun s' S' r' => K L hL _ ?_ s' _ S' ?_) L.length 0 w56 left _ _ _ _ _ _ (by omega) S51 (l57.eq fun z => rb.aI lo (by simp) (by simp)) (fun y hy => (rb.aL lo (by simp) (by simp)).trans (l58 y hy)) rfl
      · rw [e56, List.drop_zero]
      · exact (rall.mono (by cases lk <;> decide) (by simp) (by simp)).trans (r'.mono (by cases lk <;> decide) (by decide) (by simp))
  · show _ = nf + Int32.ofNat 0
    rw [show nf + Int32.ofNat 0 = nf from Int32.add_zero _]
    exact (r23'.fI (by decide)).trans S.2.2.2.1
end

/-! THE CLASS: the row of SHARED -/
theorem i64ns (a b : Int64) : a - b = -(b - a) := by grind
theorem i64as (a b c : Int64) : a + b + c = a + (b + c) := by grind
section
variable {nl : Bool} {Ln : Nat} {xs : Nat → Int32} {d : Nat} {σ σ1 : am_S} {w : ow_T} {wk ab v b : Nat} {P : List mPol} {T : List mTell} {Ls : List mLoss} {Cs : List mCase} {i : Nat} {x : mCase} {cc lc : Nat} {day at' : Int32} {C : List mCl} {p pc : Nat} {q : mPol} {hd : Option Nat} {sum worth s : Int64} {rows : List mRow} {tr : List Int32} {fnd : Int32} {ov : Bool} {ord : List Nat} {al : Nat → Option Int64} {g : Nat → Int64}
abbrev ShF (wk ab v : Nat) (σ σ' : am_S) : Prop := Wc wk ab v [2011] [5] [3004, 3005, 3006, 3007] [1, 2, 3, 4] σ σ'
theorem shg_f {wk ab v : Nat} {σ σ' : am_S} (r : ShG wk ab v σ σ') : ShF wk ab v σ σ' := Wc.mono r (by simp) (by decide) (by decide) (by simp)
theorem wkc_f {wk ab v : Nat} {σ σ' : am_S} (r : WkC wk ab v σ σ') : ShF wk ab v σ σ' := Wc.mono r (by decide) (by simp) (by decide) (by decide)
theorem wk_sharedRow {F : am_S → Prop} (h13 : rows.length < 13) (hn : ord.Nodup) (h1 : 1 ≤ ord.length) (h0 : 0 ∈ ord) (hrng : ∀ y, 0 ≤ (alv al y).toInt ∧ (alv al y).toInt ≤ 10000000000000) (hw0 : 0 ≤ worth.toInt) (X : WkX σ w wk ab v b P T Ls Cs i x cc lc day at' C p pc q hd sum worth s rows tr 0 false) (S : ShB σ wk ab v ord al) (G : GeW σ ab (fun _ => 0))
    (K : ∀ sh, sh = m_share (m_rule T p at') al ord (m_least worth (m_tot al ord)) (m_tot al ord) → ∀ σ', (if ord.length = 1 then WkX σ' w wk ab v b P T Ls Cs i x cc lc day at' C p pc q hd sum worth s rows tr 0 false else if sh.1 = 0 then WkX σ' w wk ab v b P T Ls Cs i x cc lc day at' C p pc q hd sum worth (m_less (rows, s) 7 (Int32.ofNat (ord.length - 1)) (s - sh.2)).2 (m_less (rows, s) 7 (Int32.ofNat (ord.length - 1)) (s - sh.2)).1 tr 0 false else WkX σ' w wk ab v b P T Ls Cs i x cc lc day at' C p pc q hd sum worth s rows tr sh.1 true) → ShF wk ab v σ σ' → F σ') : k_Wk_sharedRow nl Ln xs (d + 5) wk (Int32.ofNat ord.length - 1) σ F := by
  obtain ⟨m, hm⟩ : ∃ m, ord.length = m + 1 := ⟨ord.length - 1, by omega⟩
  have h66 := S.2.2.2.2.2.1
  have z64 : (0 : Int64).toInt = 0 := by decide
  have K' := K _ rfl
  have e1 : Int32.ofNat ord.length - 1 = Int32.ofNat m := by rw [hm]; exact n32m m
  have e2 : Int32.ofNat m + 1 = Int32.ofNat ord.length := by rw [hm]; exact n32s m
  rw [e1]
  refine w_Wk_sharedRow ⟨fun z => ?_, fun z => ?_⟩
  · have zm : m = 0 := (n32i (b := 0) (by omega) (by decide)).mp z
    exact K' σ (by rw [if_pos (by omega)]; exact X) Wc.rf
  · have zm : ¬ m = 0 := fun y => z (by rw [y]; rfl)
    have hne : ¬ ord.length = 1 := by omega
    have htot := tot_int ord h66 (fun y _ => hrng y)
    have hSI0 := SI_nn (f := alv al) (l := ord) (fun y _ => (hrng y).1)
    have hleast : (m_least worth (m_tot al ord)).toInt = min worth.toInt (m_tot al ord).toInt := least_int
    have hall0 : 0 ≤ (m_least worth (m_tot al ord)).toInt := by omega
    have hz : ∀ y ∈ ord, 0 ≤ ((fun _ => (0 : Int64)) y : Int64).toInt ∧ ((fun _ => (0 : Int64)) y : Int64).toInt ≤ (alv al y).toInt := fun y _ => ⟨by show 0 ≤ (0 : Int64).toInt; rw [z64]; omega, by show (0 : Int64).toInt ≤ _; rw [z64]; exact (hrng y).1⟩
    have hshi : ShI al ord (fun _ => 0, m_least worth (m_tot al ord)) := by
      refine ⟨hz, hall0, ?_⟩
      have : SI (fun _ => (0 : Int64)) ord = 0 := by
        have : ∀ l : List Nat, SI (fun _ => (0 : Int64)) l = 0 := by intro l; induction l with
          | nil => rfl
          | cons z l ih => rw [SI, ih, z64]; rfl
        exact this ord
      show SI (fun _ => (0 : Int64)) ord + (m_least worth (m_tot al ord)).toInt ≤ _
      rw [this]
      omega
    -- the row
    have fin : ∀ (s2 : am_S) (g : Nat → Int64) (x2 x4 : Int64) (x6 : Option Nat) (x7 : Int32), WkX s2 w wk ab v b P T Ls Cs i x cc lc day at' C p pc q hd sum worth s rows tr 0 false → ShB s2 wk ab v ord al → GeW s2 ab g → ShF wk ab v σ s2 → m_share (m_rule T p at') al ord (m_least worth (m_tot al ord)) (m_tot al ord) = (0, g 0) → c_Wk_sharedRow_128 nl Ln xs (d + 5) wk (Int32.ofNat m) x2 x4 x6 x7 s2 F := by
      intro s2 g x2 x4 x6 x7 X2 S2 G2 r2 em
      have V := X2.1.1.2.2.2.2.1
      obtain ⟨⟨-, -, -, f17, f18, f19⟩, -, -, -, k4, k5, k6⟩ := S2.2.2.1
      refine w_Wk_sharedRow_128 ⟨is_mk S2.2.1, ?_⟩
      rw [X2.1.1.2.2.2.1, Option.getD_some, V.2.2.2.2, f18, Option.getD_some, X2.1.2.2.2.1.2.2]
      refine ⟨is_mk V.1.1, fun _ => ⟨ar_mk k5 (by decide) (by decide), ?_⟩, fun y => absurd rfl y⟩
      rw [show (0 : Int32).toNatClampNeg = 0 from rfl, G2 0 (by decide), i64ns]
      refine wk_less X2.1 h13 (by decide) (fun s5 B5 r5 _ => K' s5 ?_ (r2.trans (wkc_f r5)))
      rw [if_neg hne, em, if_pos rfl, show ord.length - 1 = m by omega]
      exact X2.rw B5 r5
    -- a finding
    have fail : ∀ (s2 : am_S) (n : Int32) (x2 x4 : Int64) (x6 : Option Nat) (x7 : Int32), ¬ n = 0 → WkX s2 w wk ab v b P T Ls Cs i x cc lc day at' C p pc q hd sum worth s rows tr n true → ShF wk ab v σ s2 → (m_share (m_rule T p at') al ord (m_least worth (m_tot al ord)) (m_tot al ord)).1 = n → c_Wk_sharedRow_128 nl Ln xs (d + 5) wk (Int32.ofNat m) x2 x4 x6 x7 s2 F := by
      intro s2 n x2 x4 x6 x7 hn0 X2 r2 em
      have V := X2.1.1.2.2.2.2.1
      refine w_Wk_sharedRow_128 ⟨is_mk X2.1.1.2.2.1, ?_⟩
      rw [X2.1.1.2.2.2.1, Option.getD_some, V.2.2.2.2]
      exact ⟨is_mk V.1.1, fun y => absurd y (by decide), fun _ => K' s2 (by rw [if_neg hne, em, if_neg hn0]; exact X2) r2⟩
    have sum' : ∀ (n k : Nat) (a : Int64), k + n = ord.length → a + m_tot al (ord.drop k) = m_tot al ord → c_Wk_sharedRow_10 nl Ln xs (d + 5) wk (Int32.ofNat m) a (Int32.ofNat k) σ F := by
      intro n
      induction n with
      | zero =>
        intro k a hk ha
        rw [List.drop_of_length_le (by omega)] at ha
        have ha : a = m_tot al ord := by
          have : a + 0 = m_tot al ord := ha
          rw [← this, i64a0]
        subst ha
        refine w_Wk_sharedRow_10 ⟨fun _ => ⟨is_mk S.2.1, w_Math_min ?_⟩, fun y => absurd ((n32lt (by omega) (by omega)).mpr (by omega)) y⟩
        rw [X.2.2.2.2, min_least]
        rintro w3 rfl
        intro _
        have hp := X.pol
        rw [X.2.1.1, Option.getD_some, X.1.2.2.2.1.2.1]
        have el := look_tlP (T := T) (act := 7) (which := 0) (at' := at') (p := p) (by decide)
        have disp : ∀ (e : Option Nat) (w11 : Int32), w11 = m_rule T p at' → c_Wk_sharedRow_81 nl Ln xs (d + 5) wk (Int32.ofNat m) (m_tot al ord) (m_least worth (m_tot al ord)) e w11 σ F := by
          intro e w11 ew
          rw [ew]
          refine w_Wk_sharedRow_81 ⟨fun hr => ⟨is_mk S.2.1, ?_⟩, fun hr => ⟨fun hr1 => ⟨is_mk S.2.1, ?_⟩, fun hr1 => ⟨is_mk S.2.1, ?_⟩⟩⟩
          · rw [e2]
            refine w_Wk_shareByAlone ⟨fun y => ⟨is_mk S.2.1, ?_⟩, fun y => ?_⟩
            · rw [X.1.1.2.2.2.1, Option.getD_some]
              refine ⟨is_mk X.1.1.2.2.2.2.1.1.1, vw_fail X.1.1.2.2.2.2.1 X.1.1.1 (fun s3 V3 r3 _ _ => ?_)⟩
              have X3 := X.wc r3 (by decide) (by simp) (by simp) (by simp) V3 ((r3.fL (by simp) (by decide)).trans X.1.2.2.2.1.2.2) ((r3.fL (by simp) (by decide)).trans X.2.2.2.2)
              refine fail s3 4 _ _ _ _ (by decide) X3 (shg_f (sh6 r3)) ?_
              unfold m_share
              rw [if_pos hr, if_pos y]
            · by_cases hg : ord.any (fun i => m_great (m_least worth (m_tot al ord)) ((al i).getD 0)) = true
              · refine wk_partsG (d := d + 2) y hall0 (fun z _ => (hrng z).1) ord.length 0 _ none σ 0 false (by omega) (Or.inr ⟨⟨rfl, rfl⟩, ?_⟩) X S (fun s3 X3 r3 _ => fail s3 5 _ _ _ _ (by decide) X3 (shg_f r3) ?_)
                · rw [List.drop_zero]
                  obtain ⟨z, hz1, hz2⟩ := List.any_eq_true.mp hg
                  exact ⟨z, hz1, hz2⟩
                · unfold m_share
                  rw [if_pos hr, if_neg y, if_pos hg]
              · refine wk_partsN (d := d + 2) y hall0 (fun z _ => (hrng z).1) (fun z hz1 => ?_) ord.length 0 (fun _ => 0) _ none σ (by omega) X S G (fun s3 x9 X3 S3 G3 r3 => ?_)
                · cases hh : m_great (m_least worth (m_tot al ord)) (alv al z) with
                  | false => rfl
                  | true => exact absurd (List.any_eq_true.mpr ⟨z, hz1, hh⟩) hg
                · rw [List.drop_zero] at G3 ⊢
                  refine wk_cents (d := d + 2) 6 0 _ _ s3 (by omega) X3 S3 G3 (fun s4 X4 S4 G4 r4 _ => fin s4 _ _ _ _ _ X4 S4 G4 (shg_f (Wc.trans r3 r4)) ?_)
                  unfold m_share
                  rw [if_pos hr, if_neg y, if_neg hg]
          · rw [e2]
            have hD := rounds_ok hn h66 (fun y _ => (hrng y).2) 12 _ hshi (Nat.le_trans (lack_le al (fun _ => 0) ord) (by omega))
            refine wk_byRounds (d := d + 1) hn (fun y _ => (hrng y).2) hD hz S G (fun s3 S3 G3 r3 _ => fin s3 _ _ _ _ _ (X.sh r3) S3 G3 (shg_f (sh5 r3)) ?_)
            unfold m_share
            rw [if_neg hr, if_pos hr1]
          · rw [e2]
            refine wk_byRanks (d := d + 2) S G (fun s3 S3 G3 r3 _ => fin s3 _ _ _ _ _ (X.sh r3) S3 G3 (shg_f (sh5 r3)) ?_)
            unfold m_share
            rw [if_neg hr, if_neg hr1]
        refine ⟨is_mk hp.2.1, en_known (d := d + 3) hp.2.2.2.2.2.2.2 (fun gg _ => ⟨fun y => absurd rfl y, ?_⟩) (fun t e gg he _ => ⟨fun _ => is_mk he.2.1, ?_⟩)⟩
        · intro w11 e11
          rw [if_pos rfl] at e11
          refine disp _ _ ?_
          unfold m_rule
          rw [el, gg]
          exact e11
        · intro w11 e11
          rw [if_neg (by simp), Option.getD_some, he.2.2.2.2.2.1] at e11
          refine disp _ _ ?_
          unfold m_rule
          rw [el, gg]
          exact e11
      | succ n ih =>
        intro k a hk ha
        obtain ⟨y, hyk⟩ := get_ex (show k < ord.length by omega)
        obtain ⟨hy6, hys⟩ := S.2.2.2.2.2.2 y (List.mem_of_getElem? hyk)
        have bk : 0 ≤ (Int32.ofNat k).toInt ∧ (Int32.ofNat k).toInt < 6 := by rw [n32 (by omega)]; omega
        have bz : 0 ≤ (Int32.ofNat y).toInt ∧ (Int32.ofNat y).toInt < 6 := by rw [n32 (by omega)]; omega
        have vt := S.2.2.2.1 k y hyk
        have va := (S.2.2.2.2.1 y hy6).trans (al_v hys)
        obtain ⟨⟨-, -, -, f17, f18, f19⟩, -, -, -, k4, k5, k6⟩ := S.2.2.1
        refine w_Wk_sharedRow_10 ⟨fun y => absurd ((n32lt (by omega) (by omega)).mp y) (by omega), fun _ => ⟨is_mk S.2.1, ?_⟩⟩
        rw [f17, f19, Option.getD_some, Option.getD_some, n32c (show k < 2147483648 by omega), vt, n32c (show y < 2147483648 by omega), va, n32s]
        refine ⟨ar_mk k6 bk.1 bk.2, ar_mk k4 bz.1 bz.2, ?_⟩
        rintro v16 rfl
        refine ih (k + 1) _ (by omega) ?_
        rw [drop_get hyk] at ha
        have ha : a + ((al y).getD 0 + m_tot al (ord.drop (k + 1))) = m_tot al ord := ha
        rw [i64as]
        exact ha
    exact sum' ord.length 0 0 (by omega) (by rw [List.drop_zero]; show (0 : Int64) + _ = _; grind)
end

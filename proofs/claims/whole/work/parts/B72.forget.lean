/-! THE CLASS: what was kept behind a moment is forgotten -/
theorem mod_mid {α : Type} {g : α → α} {y : α} {post : List α} : ∀ (pre : List α), (pre ++ y :: post).modify pre.length g = pre ++ g y :: post
  | [] => rfl
  | z :: pre => by
    have := mod_mid (g := g) (y := y) (post := post) pre
    show z :: (pre ++ y :: post).modify pre.length g = _
    rw [this]
    rfl
theorem get_mid {α : Type} {y : α} {post : List α} (pre : List α) : (pre ++ y :: post)[pre.length]? = some y := by simp
section
variable {nl : Bool} {Ln : Nat} {xs : Nat → Int32} {d : Nat} {σ : am_S} {w : ow_T} {b v gl nu : Nat} {M : mOff} {V : Nat × Nat × Nat × Nat × Nat} {Cc : Nat × Nat} {before : Int32}
theorem bk_forget20 {pre post : List mCase} {x0 : mCase} {fs0 : List mFact} {cc : Nat} {F : am_S → Prop} (hb : 1189 ≤ b ∨ b = 1039) (h100 : (o_pol M).length ≤ 100) (h200 : (o_los M).length ≤ 200) (hfs : fs0.length ≤ 40) (h0 : ∀ f ∈ fs0, ¬ before < f.2.2.1)
    (K : ∀ s' w' X', Bks s' w' v X' b (m_setCas M (pre ++ putF x0 fs0 :: post)) gl nu V Cc → Eff (bkK b v) σ w s' w' → am_fI s' 2001 1008 = am_fI σ 2001 1008 → ∀ x3 x4 x5, c_Bk_forgetBehind_2 nl Ln xs (d + 2) b before (Int32.ofNat pre.length + 1) x3 x4 x5 s' F) : ∀ (m : Nat) (ex : List mFact) (k : Nat) (s : am_S) (ws : ow_T) (Xs : Stx) (x5 : Option Value), ex.length = m → k + m ≤ 40 → (∀ f ∈ ex, before < f.2.2.1) → Bks s ws v Xs b (m_setCas M (pre ++ putF x0 (fs0 ++ ex) :: post)) gl nu V Cc → Eff (bkK b v) σ w s ws → am_fI s 2001 1008 = am_fI σ 2001 1008 → am_aR s (bA s b 6006) pre.length = some cc → c_Bk_forgetBehind_20 nl Ln xs (d + 2) b before (Int32.ofNat pre.length) (some cc) (Int32.ofNat k) x5 s F := by
  have t40 : (40 : Int32).toInt = 40 := by decide
  intro m
  induction m with
  | zero =>
    intro ex k s ws Xs x5 hm hk hex A E hf hcc
    have hnil : ex = [] := List.length_eq_zero_iff.mp hm
    subst hnil
    rw [List.append_nil] at A
    have K' := K s ws Xs A E hf
    obtain ⟨c', z1, z2, -⟩ := A.2.1.1.2.2.2.2.1 pre.length (putF x0 fs0) (get_mid pre)
    have ecc : c' = cc := Option.some.inj (z1.symm.trans hcc)
    subst ecc
    obtain ⟨y1, y2, y3⟩ := z2.1
    refine w_Bk_forgetBehind_20 ?_
    rw [Option.getD_some]
    refine ⟨fun _ => ⟨is_mk y2, fun _ => K' _ _ _, fun hn => ?_⟩, fun _ => K' _ _ _⟩
    have y3 : ChF s ws (b, 600 + pre.length) (am_fR s 11005 c') fs0.reverse := y3
    cases hr : fs0.reverse with
    | nil =>
      rw [hr] at y3
      exact absurd y3 hn
    | cons f l =>
      rw [hr] at y3
      obtain ⟨c, hc, hE, -⟩ := y3
      rw [hc, Option.getD_some, hE.2.2.2.2.1]
      have hfm : f ∈ fs0 := List.mem_reverse.mp (by rw [hr]; exact List.mem_cons_self)
      exact ⟨is_mk hE.2.1, fun h => absurd h (h0 f hfm), fun _ => K' _ _ _⟩
  | succ m ih =>
    intro ex k s ws Xs x5 hm hk hex A E hf hcc
    obtain ⟨ex', f, rfl⟩ : ∃ ex' f, ex = ex' ++ [f] := by
      rcases List.eq_nil_or_concat ex with h | ⟨l, a, h⟩
      · rw [h] at hm
        cases hm
      · exact ⟨l, a, by rw [h, List.concat_eq_append]⟩
    rw [List.length_append, List.length_singleton] at hm
    refine low (fun hL => w_Bk_forgetBehind_20 ?_)
    obtain ⟨c, p1, p2, p3, p4⟩ := bk_pop (M := m_setCas M (pre ++ putF x0 (fs0 ++ (ex' ++ [f])) :: post)) (x := putF x0 (fs0 ++ (ex' ++ [f]))) (l := fs0 ++ ex') (f := f) hb hL h100 h200 (get_mid pre) hcc (by show fs0 ++ (ex' ++ [f]) = _; rw [List.append_assoc]) (by rw [List.length_append]; omega) A
    obtain ⟨c', z1, z2, -⟩ := A.2.1.1.2.2.2.2.1 pre.length (putF x0 (fs0 ++ (ex' ++ [f]))) (get_mid pre)
    have ecc : c' = cc := Option.some.inj (z1.symm.trans hcc)
    subst ecc
    have kc := z2.1.2.1
    rw [Option.getD_some, p1, Option.getD_some, p3, i32lt, n32 (by omega), t40]
    refine ⟨fun _ => ⟨is_mk kc, fun h => absurd h (by simp), fun _ => ⟨is_mk p2, fun _ => ?_, fun h => absurd (hex f (by simp)) h⟩⟩, fun h => absurd (by omega) h⟩
    rintro v6 rfl
    rw [Option.getD_some]
    refine ⟨is_mk p2, ?_⟩
    intro s9 e9 s12 e12
    obtain ⟨w17, A17, E17, f17, k12, f12, k38, r17⟩ := p4 s9 e9 s12 e12 _ rfl _ rfl
    rw [f12, Option.getD_some]
    refine ⟨is_mk (by rw [k12]; exact A.2.1.1.1.2.1), is_mk k38, w_Sk_putBack ⟨is_mk k38, is_mk (by rw [k12]; exact p2), ?_⟩⟩
    rintro s15 rfl s17 rfl _
    rw [n32s]
    refine ih ex' (k + 1) _ w17 (c :: Xs.1, Xs.2) _ (by omega) (by omega) (fun g hg => hex g (by simp [hg])) ?_ (E.trans E17) (f17.trans hf) ((r17 _).trans hcc)
    have e : popM (m_setCas M (pre ++ putF x0 (fs0 ++ (ex' ++ [f])) :: post)) pre.length = m_setCas M (pre ++ putF x0 (fs0 ++ ex') :: post) := by
      show m_setCas M ((pre ++ putF x0 (fs0 ++ (ex' ++ [f])) :: post).modify pre.length _) = _
      rw [mod_mid]
      have : putF (putF x0 (fs0 ++ (ex' ++ [f]))) ((putF x0 (fs0 ++ (ex' ++ [f]))).2.2.2.2.2.dropLast) = putF x0 (fs0 ++ ex') := by
        show putF x0 ((fs0 ++ (ex' ++ [f])).dropLast) = _
        rw [← List.append_assoc, List.dropLast_concat]
      rw [this]
    rw [e] at A17
    exact A17
/-- cases that have grown since -/
def Grown (before : Int32) (C0 C1 : List mCase) : Prop := C1.length = C0.length ∧ ∀ (i : Nat) (x : mCase), C1[i]? = some x → ∃ (x0 : mCase) (ex : List mFact), C0[i]? = some x0 ∧ x = putF x0 (x0.2.2.2.2.2 ++ ex) ∧ (∀ f ∈ ex, before < f.2.2.1) ∧ (∀ f ∈ x0.2.2.2.2.2, ¬ before < f.2.2.1) ∧ (x0.2.2.2.2.2 ++ ex).length ≤ 40
theorem bk_forget {C0 : List mCase} {X : Stx} {F : am_S → Prop} (hb : 1189 ≤ b ∨ b = 1039) (h100 : (o_pol M).length ≤ 100) (h200 : (o_los M).length ≤ 200) (hc100 : (o_cas M).length ≤ 100) (hG : Grown before C0 (o_cas M)) (A : Bks σ w v X b M gl nu V Cc)
    (K : ∀ s' w' X', Bks s' w' v X' b (m_setCas M C0) gl nu V Cc → Eff (bkK b v) σ w s' w' → am_fI s' 2001 1008 = am_fI σ 2001 1008 → F s') : k_Bk_forgetBehind nl Ln xs (d + 2) b before σ F := by
  obtain ⟨hG1, hG2⟩ := hG
  have loop : ∀ (j n : Nat) (s : am_S) (ws : ow_T) (Xs : Stx) (x3 x4 x5 : Option Value), n + j = C0.length → Bks s ws v Xs b (m_setCas M (C0.take n ++ (o_cas M).drop n)) gl nu V Cc → Eff (bkK b v) σ w s ws → am_fI s 2001 1008 = am_fI σ 2001 1008 → c_Bk_forgetBehind_2 nl Ln xs (d + 2) b before (Int32.ofNat n) x3 x4 x5 s F := by
    intro j
    induction j with
    | zero =>
      intro n s ws Xs x3 x4 x5 hn A E hf
      have e : C0.take n ++ (o_cas M).drop n = C0 := by
        rw [List.take_of_length_le (by omega), List.drop_eq_nil_of_le (by omega), List.append_nil]
      rw [e] at A
      have hK := A.2.1.1.1
      have h14 : am_fI s 6014 b = Int32.ofNat C0.length := A.2.1.1.2.1.2.2
      refine w_Bk_forgetBehind_2 ⟨is_mk hK.2.1, ?_⟩
      rw [h14, n32lt (by omega) (by omega)]
      exact ⟨fun h => absurd h (by omega), fun _ => K s ws Xs A E hf⟩
    | succ j ih =>
      intro n s ws Xs x3 x4 x5 hn A E hf
      obtain ⟨x, hx⟩ := get_ex (show n < (o_cas M).length by omega)
      obtain ⟨x0, ex, g1, g2, g3, g4, g5⟩ := hG2 n x hx
      rw [List.length_append] at g5
      have hlen : (C0.take n).length = n := by rw [List.length_take]; omega
      have e : C0.take n ++ (o_cas M).drop n = C0.take n ++ putF x0 (x0.2.2.2.2.2 ++ ex) :: (o_cas M).drop (n + 1) := by rw [drop_get hx, g2]
      rw [e] at A
      have hK := A.2.1.1.1
      have h14 : am_fI s 6014 b = Int32.ofNat (C0.take n ++ putF x0 (x0.2.2.2.2.2 ++ ex) :: (o_cas M).drop (n + 1)).length := A.2.1.1.2.1.2.2
      have hll : (C0.take n ++ putF x0 (x0.2.2.2.2.2 ++ ex) :: (o_cas M).drop (n + 1)).length = C0.length := by
        rw [List.length_append, List.length_cons, List.length_drop, hlen]
        omega
      rw [hll] at h14
      obtain ⟨cc, z1, z2, -⟩ := A.2.1.1.2.2.2.2.1 (C0.take n).length (putF x0 (x0.2.2.2.2.2 ++ ex)) (get_mid (C0.take n))
      have z1' : am_aR s (bA s b 6006) n = some cc := by rw [hlen] at z1; exact z1
      refine w_Bk_forgetBehind_2 ⟨is_mk hK.2.1, ?_⟩
      have a6 := hK.2.2.2.2.2.2.1
      rw [h14, n32lt (by omega) (by omega), a6.1, Option.getD_some, n32c (by omega), z1']
      refine ⟨fun _ => ⟨ar_mk a6.2.2 (by rw [n32 (by omega)]; omega) (by rw [n32 (by omega)]; omega), ?_⟩, fun h => absurd (by omega) h⟩
      rintro v4 rfl
      have goal := bk_forget20 (d := d) (nl := nl) (Ln := Ln) (xs := xs) (σ := σ) (w := w) (v := v) (gl := gl) (nu := nu) (V := V) (Cc := Cc) (M := M) (F := F) (pre := C0.take n) (post := (o_cas M).drop (n + 1)) (x0 := x0) (fs0 := x0.2.2.2.2.2) (cc := cc) (before := before) hb h100 h200 (by omega) g4 (fun s' w' X' A' E' hf' y3 y4 y5 => by
        rw [hlen, n32s]
        refine ih (n + 1) s' w' X' y3 y4 y5 (by omega) ?_ E' hf'
        have et : C0.take (n + 1) ++ (o_cas M).drop (n + 1) = C0.take n ++ putF x0 x0.2.2.2.2.2 :: (o_cas M).drop (n + 1) := by
          rw [List.take_add_one, g1]
          simp [putF]
        rw [et]
        exact A') ex.length ex 0 s ws Xs x5 rfl (by omega) g3 A E hf z1
      rw [hlen] at goal
      exact goal
  refine w_Bk_forgetBehind ?_
  exact loop C0.length 0 σ w X none none none (by omega) A (Eff.rf A.1.1.1) rfl
end

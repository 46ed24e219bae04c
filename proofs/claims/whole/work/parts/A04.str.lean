/-! TEXTS of the program: length and charAt -/
section
variable {T : am_T} {d x pc pc' : Nat} {ns : List Nat} {L : List (Option Value)} {st : List Value} {σ : am_S} {Q : Option Value → am_S → Prop}
theorem am_kd0 {n : Nat} (hI : am_I σ) (hn : n < 1000) : (am_kd σ n).1 = 0 := Classical.byContradiction (fun h => absurd (hI.2.1 n h).1 (by omega))
theorem s_gfT {idx f t n : Nat} {v : Value} (hj : am_J T x pc (.getfield idx) pc' [8, f, 0, t]) (hl : pc' - pc = 3) (hn : n < 200 ∧ am_rk (am_tz T) n = 1) (hv : (if f = 0 then (.int 0 : Value) else .ref (n + 200)) = v) (K : am_C T d x pc' L (v :: st) σ Q) : am_C T d x pc L (am_ov (some n) :: st) σ Q := by
  intro hI
  have h0 := am_kd0 hI (show n < 1000 by omega)
  have hq := hj.2
  simp only [am_q] at hq
  have e8 := (am_q1 hq).1
  have ef := (am_q1 (am_q1 hq).2).1
  have e1 : (am_lnk T x idx).1 = 8 := by
    split at e8
    · exact absurd e8 (by decide)
    · exact e8
  refine am_C_h (st' := v :: st) (σ' := σ) (L' := L) hj rfl rfl (p1 := pc + 3) ?_ (by rw [am_dl hl (by decide)]; exact K) hI
  simp only [am_h, hl, am_ov, e1, ef, true_and]
  rw [if_neg (by rw [h0]; rintro ⟨-, q⟩; exact absurd q (by omega)), if_pos hn, hv]
theorem s_baloadR {n : Nat} {j : Int32} (hj : am_J T x pc .baload pc' ns) (hl : pc' - pc = 1) (hn : n < 1000) (h1 : am_rk (am_tz T) n = 1002) (h2 : 0 ≤ j.toInt) (h3 : j.toInt < am_rl (am_tz T) n) (K : am_C T d x pc' L (.int (am_rv (am_tz T) n j.toNatClampNeg) :: st) σ Q) : am_C T d x pc L (.int j :: am_ov (some n) :: st) σ Q := by
  intro hI
  have h0 := am_kd0 hI hn
  refine am_C_h (σ' := σ) (L' := L) hj rfl rfl (p1 := pc + 1) ?_ (by rw [am_dl hl (by decide)]; exact K) hI
  simp only [am_h, hl, am_ov, true_and]
  rw [if_neg (by rw [h0]; rintro ⟨q | q, -⟩ <;> exact absurd q (by decide)), if_pos ⟨hn, h1, h2, h3⟩]
theorem s_lenR' {n : Nat} (hj : am_J T x pc .arraylength pc' ns) (hl : pc' - pc = 1) (hn : n < 1000) (h1 : am_rk (am_tz T) n = 1000 ∨ am_rk (am_tz T) n = 1002) {v : Int32} (hv : Int32.ofNat (am_rl (am_tz T) n) = v) (K : am_C T d x pc' L (.int v :: st) σ Q) : am_C T d x pc L (am_ov (some n) :: st) σ Q := by
  intro hI
  exact s_lenR hj hl hn (am_kd0 hI hn) h1 hv K hI
theorem s_staticI {idx n : Nat} {v : Int32} (hj : am_J T x pc (.getstatic idx) pc' [7, n, 1]) (hl : pc' - pc = 3) (hv : am_li T x idx = v) (K : am_C T d x pc' L (.int v :: st) σ Q) : am_C T d x pc L st σ Q := by
  have hq := hj.2
  simp only [am_q] at hq
  have e7 := (am_q1 hq).1
  have en := (am_q1 (am_q1 hq).2).1
  have e0 := (am_q1 (am_q1 (am_q1 hq).2).2).1
  refine am_C_h hj rfl rfl (p1 := pc + 3) ?_ (by rw [am_dl hl (by decide)]; exact K)
  simp only [am_h, hl, e7, am_sv, e0, and_self, if_true]
  rw [if_neg (by decide), if_neg (by decide), hv]
theorem s_staticN {idx n : Nat} (hj : am_J T x pc (.getstatic idx) pc' [7, n, 2]) (hl : pc' - pc = 3) (K : am_C T d x pc' L (am_ov none :: st) σ Q) : am_C T d x pc L st σ Q := by
  have hq := hj.2
  simp only [am_q] at hq
  have e7 := (am_q1 hq).1
  have e0 := (am_q1 (am_q1 (am_q1 hq).2).2).1
  refine am_C_h hj rfl rfl (p1 := pc + 3) ?_ (by rw [am_dl hl (by decide)]; exact K)
  simp only [am_h, hl, e7, am_sv, e0, and_self, if_true, am_ov]
  rw [if_neg (by decide)]
theorem s_retB {F : Int32 → am_S → Prop} {a : Int32} (hj : am_J T x pc .ireturn pc' [5]) (hl : pc' - pc = 1) (hv : vp_nar .byte a = a) (h : F a σ) : am_C T d x pc L [.int a] σ (am_qI F) := by
  have e := (am_q1 hj.2).1
  exact am_C_r (v := some (.int a)) hj (by simp only [am_ret, hl, if_true]) (by rw [e]; simp [am_rcok, hv]) h
theorem s_retC {F : Int32 → am_S → Prop} {a : Int32} (hj : am_J T x pc .ireturn pc' [6]) (hl : pc' - pc = 1) (hv : vp_nar .char a = a) (h : F a σ) : am_C T d x pc L [.int a] σ (am_qI F) := by
  have e := (am_q1 hj.2).1
  exact am_C_r (v := some (.int a)) hj (by simp only [am_ret, hl, if_true]) (by rw [e]; simp [am_rcok, hv]) h
end
section
variable {nl : Bool} {Ln : Nat} {xs : Nat → Int32} {d : Nat} {σ : am_S}
theorem P_length (nl : Bool) (Ln : Nat) (xs : Nat → Int32) : am_Jl (TT nl Ln xs) 157 [(0, .aload_n 0, 1, []), (1, .getfield 9, 4, [8, 1, 0, 2]), (4, .arraylength, 5, []), (5, .aload_n 0, 6, []), (6, .invokevirtual 335, 9, [10, 158, 0, 1, 1]), (9, .ishr, 10, []), (10, .ireturn, 11, [1])] := dk_ck (by decide +kernel)
theorem P_coder (nl : Bool) (Ln : Nat) (xs : Nat → Int32) : am_Jl (TT nl Ln xs) 158 [(0, .getstatic 38, 3, [7, 0, 1]), (3, .ifCond .eq 10, 6, []), (6, .aload_n 0, 7, []), (7, .getfield 15, 10, [8, 0, 0, 2]), (10, .goto 4, 13, []), (14, .ireturn, 15, [5])] := dk_ck (by decide +kernel)
theorem P_isLatin1 (nl : Bool) (Ln : Nat) (xs : Nat → Int32) : am_Jl (TT nl Ln xs) 88 [(0, .getstatic 38, 3, [7, 0, 1]), (3, .ifCond .eq 14, 6, []), (6, .aload_n 0, 7, []), (7, .getfield 15, 10, [8, 0, 0, 2]), (10, .ifCond .ne 7, 13, []), (13, .iconst 1, 14, []), (14, .goto 4, 17, []), (18, .ireturn, 19, [4])] := dk_ck (by decide +kernel)
theorem P_charAt (nl : Bool) (Ln : Nat) (xs : Nat → Int32) : am_Jl (TT nl Ln xs) 87 [(0, .aload_n 0, 1, []), (1, .invokevirtual 492, 4, [10, 88, 0, 1, 1]), (4, .ifCond .eq 12, 7, []), (7, .aload_n 0, 8, []), (8, .getfield 9, 11, [8, 1, 0, 2]), (11, .iload_n 1, 12, []), (12, .invokestatic 495, 15, [12, 89, 2, 2]), (15, .ireturn, 16, [6])] := dk_ck (by decide +kernel)
theorem P_charAtL (nl : Bool) (Ln : Nat) (xs : Nat → Int32) : am_Jl (TT nl Ln xs) 89 [(0, .iload_n 1, 1, []), (1, .aload_n 0, 2, []), (2, .arraylength, 3, []), (3, .invokestatic 9, 6, [12, 90, 2, 2]), (6, .aload_n 0, 7, []), (7, .iload_n 1, 8, []), (8, .baload, 9, []), (9, .sipush 255, 12, []), (12, .iand, 13, []), (13, .i2c, 14, []), (14, .ireturn, 15, [6])] := dk_ck (by decide +kernel)
theorem P_check (nl : Bool) (Ln : Nat) (xs : Nat → Int32) : am_Jl (TT nl Ln xs) 90 [(0, .iload_n 0, 1, []), (1, .iload_n 1, 2, []), (5, .invokestatic 1059, 8, [12, 91, 3, 3]), (8, .pop, 9, []), (9, .return_, 10, [0])] := dk_ck (by decide +kernel)
theorem P_pre (nl : Bool) (Ln : Nat) (xs : Nat → Int32) : am_Jl (TT nl Ln xs) 91 [(0, .iload_n 0, 1, []), (1, .ifCond .lt 8, 4, []), (4, .iload_n 0, 5, []), (5, .iload_n 1, 6, []), (6, .if_icmp .lt 10, 9, []), (16, .iload_n 0, 17, []), (17, .ireturn, 18, [1])] := dk_ck (by decide +kernel)
end

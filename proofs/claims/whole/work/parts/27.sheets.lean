/-! PURE 18: what goes on part by part; sheets refused -/
section Comp
variable {I J : Mem} {S : RS} {T : Nat} {Bs : Nat → Bk} {tp : Nat} {tx : Nat → Nat} {sh : SHt} {im : Option RS}
theorem BKs_of (hT : T ≤ 6) (e : ∀ c, (30 ≤ c ∧ c < 48) ∨ c = 62 ∨ c = 63 → J c = I c) (h : BKs I T Bs) : BKs J T Bs := by
  intro t ht
  obtain ⟨b1, b2, b3⟩ := h t ht
  exact ⟨b1, ⟨fun k hk => by rw [e _ (by omega)]; exact b2.1 k hk, fun j hj => by rw [e _ (by omega)]; exact b2.2 j hj⟩, ⟨fun k hk => by rw [e _ (by omega)]; exact b3.1 k hk, fun j hj => by rw [e _ (by omega)]; exact b3.2 j hj⟩⟩
theorem TP_of (e1 : J 27 = I 27) (e2 : J 61 = I 61) (e3 : J 0 8 = I 0 8) (e4 : J 56 7 = I 56 7) (h : TP I tp tx) : TP J tp tx := ⟨h.1, by rw [e3]; exact h.2.1, by rw [e4]; exact h.2.2.1, fun k hk => by rw [e1, e2]; exact h.2.2.2 k hk⟩
theorem ShC_of (e : ∀ c, 48 ≤ c → c < 56 → J c = I c) (h : ShC I sh) : ShC J sh := by
  intro σ hσ
  obtain ⟨a1, a2, a3⟩ := h σ hσ
  exact ⟨by rw [e _ (by omega) (by omega)]; exact a1, by rw [e _ (by omega) (by omega)]; exact a2, fun k hk => by rw [e _ (by omega) (by omega)]; exact a3 k hk⟩
theorem ShM_of (e1 : J 66 = I 66) (e2 : J 67 = I 67) (e3 : J 68 = I 68) (h : ShM I sh) : ShM J sh := by
  intro σ hσ
  obtain ⟨a1, a2, a3⟩ := h σ hσ
  exact ⟨by rw [e1]; exact a1, by rw [e2]; exact a2, fun k hk => by rw [e3]; exact a3 k hk⟩
theorem CR_of {ρ : Nat} {R : RS} (e : ∀ j, j < 8 → J (2 + 8 * ρ + j) = I (2 + 8 * ρ + j)) (h : CR I ρ R) : CR J ρ R := by
  obtain ⟨c1, c2, c3, c4, c5⟩ := h
  have e0 := e 0 (by omega)
  rw [Nat.add_zero] at e0
  refine ⟨by rw [e0]; exact c1, by rw [e0]; exact c2, by rw [e0]; exact c3, fun p hp => ?_, fun p q hp hq => by rw [e 7 (by omega)]; exact c5 p q hp hq⟩
  rw [e 1 (by omega), e 2 (by omega), e 3 (by omega), e 4 (by omega), e 5 (by omega), e 6 (by omega)]
  exact c4 p hp
theorem ZC_of {ρ N : Nat} (e6 : J (2 + 8 * ρ + 6) = I (2 + 8 * ρ + 6)) (e7 : J (2 + 8 * ρ + 7) = I (2 + 8 * ρ + 7)) (h : ZC I ρ N) : ZC J ρ N := ⟨fun p a b => by rw [e6]; exact h.1 p a b, fun p q a b c => by rw [e7]; exact h.2 p q a b c⟩
theorem IM_of {K : RS} (e1 : J 64 = I 64) (e2 : J 65 = I 65) (h : IM I K) : IM J K := by
  obtain ⟨j1, j2, j3, j4, j5⟩ := h
  exact ⟨by rw [e2]; exact j1, by rw [e2]; exact j2, by rw [e2]; exact j3, fun p hp => by rw [e1]; exact j4 p hp, fun p q hp hq => by rw [e1]; exact j5 p q hp hq⟩
theorem IMG_of (e : ∀ c, 18 ≤ c → c < 26 → J c = I c) (e0 : J 0 9 = I 0 9) (e1 : J 56 12 = I 56 12) (e2 : J 64 = I 64) (e3 : J 65 = I 65) (h : IMG I S T im) : IMG J S T im := by
  cases im with
  | none => exact ⟨by rw [e0]; exact h.1, by rw [e1]; exact h.2⟩
  | some R =>
    obtain ⟨i1, i2, i3, i4, i5, i6, i7, i8, i9, i10⟩ := h
    exact ⟨by rw [e0]; exact i1, by rw [e1]; exact i2, CR_of (fun j hj => e _ (by omega) (by omega)) i3, i4, i5, i6, ZC_of (e _ (by omega) (by omega)) (e _ (by omega) (by omega)) i7, i8, i9, IM_of e2 e3 i10⟩
theorem IMG_S {S' : RS} (hN : S.2.1 ≤ S'.2.1) (h0 : ∀ p, p < S.2.1 → S'.1 0 p = S.1 0 p ∧ S'.1 1 p = S.1 1 p) (h : IMG I S T im) : IMG I S' T im := by
  cases im with
  | none => exact h
  | some R =>
    obtain ⟨i1, i2, i3, i4, i5, i6, i7, i8, i9, i10⟩ := h
    exact ⟨i1, i2, i3, i4, i5, i6, i7, by omega, fun p hp => by rw [(h0 p (by omega)).1, (h0 p (by omega)).2]; exact i9 p hp, i10⟩
theorem IMG_T {T' : Nat} (hT : T ≤ T') (h : IMG I S T im) : IMG I S T' im := by
  cases im with
  | none => exact h
  | some R =>
    obtain ⟨i1, i2, i3, i4, i5, i6, i7, i8, i9, i10⟩ := h
    exact ⟨i1, i2, i3, i4, i5, by omega, i7, i8, i9, i10⟩
theorem WT_of (e : J 70 = I 70) (h : WT I) : WT J := fun k hk => by rw [e]; exact h k hk
/-- what the model may change while it thinks, kinds too -/
def FrK (I J : Mem) : Prop := (∀ c, c ≠ 56 → c ≠ 57 → c ≠ 58 → c ≠ 59 → c ≠ 60 → c ≠ 72 → c ≠ 73 → c ≠ 74 → J c = I c) ∧ ∀ j, j ≠ 5 → j ≠ 31 → J 56 j = I 56 j
theorem FrK.rf : FrK I I := ⟨fun _ _ _ _ _ _ _ _ _ => rfl, fun _ _ _ => rfl⟩
theorem FrK.tr {I J K : Mem} (h : FrK I J) (h2 : FrK J K) : FrK I K := ⟨fun c a1 a2 a3 a4 a5 a6 a7 a8 => (h2.1 c a1 a2 a3 a4 a5 a6 a7 a8).trans (h.1 c a1 a2 a3 a4 a5 a6 a7 a8), fun j a b => (h2.2 j a b).trans (h.2 j a b)⟩
theorem FrQ.k {I J : Mem} (h : FrQ I J) : FrK I J := ⟨fun c a1 _ _ a4 a5 a6 a7 a8 => h.1 c a1 a4 a5 a6 a7 a8, h.2⟩
theorem FrK.wr {I : Mem} {c0 j : Nat} {v : Int32} (h : c0 = 57 ∨ c0 = 58 ∨ c0 = 59) : FrK I (wr I c0 j v) := ⟨fun c _ _ _ _ _ _ _ _ => wr_k _ _ _ (by omega), fun _ _ _ => by rw [wr_k _ _ _ (by omega)]⟩
theorem FrK.e (h : FrK I J) {c : Nat} (hc : c < 56 ∨ (60 < c ∧ c < 72) ∨ 74 < c) : J c = I c := h.1 c (by omega) (by omega) (by omega) (by omega) (by omega) (by omega) (by omega) (by omega)
theorem IV_k (hf : FrK I J) (hm : MR J S) (h : IV I S T Bs tp tx sh im) : IV J S T Bs tp tx sh im := by
  obtain ⟨⟨c, m, g, r, z⟩, ⟨t1, t2, t3, t4, t5⟩, b, p, ⟨s1, s2, s3⟩, i, w⟩ := h
  exact ⟨⟨CR_of (fun j hj => hf.e (by omega)) c, hm, g, r, ZC_of (hf.e (by omega)) (hf.e (by omega)) z⟩, ⟨t1, t2, t3, by rw [hf.e (by omega)]; exact t4, by rw [hf.2 10 (by omega) (by omega)]; exact t5⟩, BKs_of t2 (fun c hc => hf.e (by omega)) b, TP_of (hf.e (by omega)) (hf.e (by omega)) (by rw [hf.e (by omega)]) (hf.2 7 (by omega) (by omega)) p, ⟨ShC_of (fun c _ _ => hf.e (by omega)) s1, ShM_of (hf.e (by omega)) (hf.e (by omega)) (hf.e (by omega)) s2, s3⟩, IMG_of (fun c _ _ => hf.e (by omega)) (by rw [hf.e (by omega)]) (hf.2 12 (by omega) (by omega)) (hf.e (by omega)) (hf.e (by omega)) i, WT_of (hf.e (by omega)) w⟩
end Comp
theorem RS_ext {S S' : RS} (h : ∀ f p, S.1 f p = S'.1 f p) (h2 : S.2 = S'.2) : S = S' := Prod.ext (funext fun f => funext fun p => h f p) h2
theorem setf_id (S : RS) (f p : Nat) : setf S f p (S.1 f p) = S := by
  refine RS_ext (fun f' p' => ?_) rfl
  by_cases h : f' = f ∧ p' = p
  · rw [h.1, h.2, setf_s]
  · rw [setf_n _ _ h]
theorem setf_2 (S : RS) (f p : Nat) (x y : Int32) : setf (setf S f p x) f p y = setf S f p y := by
  refine RS_ext (fun f' p' => ?_) rfl
  by_cases h : f' = f ∧ p' = p
  · rw [h.1, h.2, setf_s, setf_s]
  · rw [setf_n _ _ h, setf_n _ _ h, setf_n _ _ h]
theorem setf_c (S : RS) {f f' p : Nat} (x y : Int32) (h : f ≠ f') : setf (setf S f p x) f' p y = setf (setf S f' p y) f p x := by
  refine RS_ext (fun f2 p2 => ?_) rfl
  by_cases h1 : f2 = f ∧ p2 = p
  · rw [h1.1, h1.2, setf_n _ _ (by omega), setf_s, setf_s]
  · by_cases h2 : f2 = f' ∧ p2 = p
    · rw [h2.1, h2.2, setf_s, setf_n _ _ (by omega), setf_s]
    · rw [setf_n _ _ h2, setf_n _ _ h1, setf_n _ _ h1, setf_n _ _ h2]
def MK (B : Bk) (sh : SHt) (I J : Mem) (S : RS) : Prop := GS S ∧ MR J S ∧ BM J S.2.2.2 B ∧ ShM J sh ∧ FrK I J
theorem BM_K {I J : Mem} {τ : Nat} {B : Bk} (h : BM I τ B) (hf : FrK I J) : BM J τ B := ⟨fun k hk => by rw [hf.e (by omega)]; exact h.1 k hk, fun j hj => by rw [hf.e (by omega)]; exact h.2 j hj⟩
theorem ShM_K {I J : Mem} {sh : SHt} (h : ShM I sh) (hf : FrK I J) : ShM J sh := ShM_of (hf.e (by omega)) (hf.e (by omega)) (hf.e (by omega)) h
theorem mk_next {B : Bk} {sh : SHt} {I J K : Mem} {S S' : RS} (h : MK B sh I J S) (f : FrK J K) (g : GS S') (m : MR K S') (hl : S'.2.2.2 = S.2.2.2) : MK B sh I K S' := ⟨g, m, by rw [hl]; exact BM_K h.2.2.1 f, ShM_K h.2.2.2.1 f, h.2.2.2.2.tr f⟩
theorem mk_set {I J : Mem} {S : RS} {B : Bk} {sh : SHt} {j p : Nat} {v : Int32} (h : MK B sh I J S) (hj : j < 4) (hb : GB (2 + j) v) : MK B sh I (wr J 59 (4 * p + j) v) (setf S (2 + j) p v) := mk_next h (FrK.wr (by omega)) (GS_set h.1 hb) (MR_set h.2.1 hj) rfl
theorem MR_kind {J : Mem} {S : RS} {p : Nat} {v : Int32} (h : MR J S) : MR (wr J 57 p v) (setf S 0 p v) := by
  obtain ⟨m1, m2, m3, m4, m5⟩ := h
  refine ⟨by rw [wr_k _ _ _ (by omega)]; exact m1, by rw [wr_k _ _ _ (by omega)]; exact m2, by rw [wr_k _ _ _ (by omega)]; exact m3, fun q hq => ?_, fun q r hq hr => by rw [wr_k _ _ _ (by omega), setf_n _ _ (by omega)]; exact m5 q r hq hr⟩
  obtain ⟨n1, n2, n3⟩ := m4 q hq
  refine ⟨?_, by rw [wr_k _ _ _ (by omega), setf_n _ _ (by omega)]; exact n2, by rw [wr_k _ _ _ (by omega), setf_n _ _ (by omega), setf_n _ _ (by omega), setf_n _ _ (by omega), setf_n _ _ (by omega)]; exact n3⟩
  by_cases hqp : q = p
  · rw [hqp, wr_s, setf_s]
  · rw [wr_j _ _ _ hqp, setf_n _ _ (by omega)]; exact n1
theorem MR_more {J : Mem} {S : RS} {p : Nat} {v : Int32} (h : MR J S) : MR (wr J 58 p v) (setf S 1 p v) := by
  obtain ⟨m1, m2, m3, m4, m5⟩ := h
  refine ⟨by rw [wr_k _ _ _ (by omega)]; exact m1, by rw [wr_k _ _ _ (by omega)]; exact m2, by rw [wr_k _ _ _ (by omega)]; exact m3, fun q hq => ?_, fun q r hq hr => by rw [wr_k _ _ _ (by omega), setf_n _ _ (by omega)]; exact m5 q r hq hr⟩
  obtain ⟨n1, n2, n3⟩ := m4 q hq
  refine ⟨by rw [wr_k _ _ _ (by omega), setf_n _ _ (by omega)]; exact n1, ?_, by rw [wr_k _ _ _ (by omega), setf_n _ _ (by omega), setf_n _ _ (by omega), setf_n _ _ (by omega), setf_n _ _ (by omega)]; exact n3⟩
  by_cases hqp : q = p
  · rw [hqp, wr_s, setf_s]
  · rw [wr_j _ _ _ hqp, setf_n _ _ (by omega)]; exact n2
theorem mk_kind {I J : Mem} {S : RS} {B : Bk} {sh : SHt} {p : Nat} {v : Int32} (h : MK B sh I J S) (hb : GB 0 v) : MK B sh I (wr J 57 p v) (setf S 0 p v) := mk_next h (FrK.wr (by omega)) (GS_set h.1 hb) (MR_kind h.2.1) rfl
theorem mk_more {I J : Mem} {S : RS} {B : Bk} {sh : SHt} {p : Nat} {v : Int32} (h : MK B sh I J S) (hb : GB 1 v) : MK B sh I (wr J 58 p v) (setf S 1 p v) := mk_next h (FrK.wr (by omega)) (GS_set h.1 hb) (MR_more h.2.1) rfl
theorem mk_unlike {I J : Mem} {S : RS} {B : Bk} {sh : SHt} {p σ : Nat} (h : MK B sh I J S) (hO : BOK B) (hσ : σ < 4) (hz : (sh σ).2.1 ≤ 40) (hp : p < S.2.1) (hr : S.2.2.1.toInt + (sh σ).2.1 ≤ 2000) : ∃ K, f_X7_unlike (nI σ) (nI p) J = some (foS B (sh σ).2.2 p (sh σ).2.1 0 S, K) ∧ MK B sh I K S := by
  obtain ⟨g, m, b, s, f⟩ := id h
  obtain ⟨K, e, m', f'⟩ := s7_unlike hσ hz g hp hr hO b m (s σ hσ).2.1 (s σ hσ).2.2
  exact ⟨K, e, mk_next h f'.k g m' rfl⟩
/-- the class, with sheets -/
def CS (B : Bk) (sh : SHt) (J : Mem) (S : RS) : Prop := CB B J S ∧ ShC J sh
theorem ShC_F {I J : Mem} {sh : SHt} (h : ShC I sh) (f : FrC 1 I J) : ShC J sh := ShC_of (fun c h1 h2 => f c (by omega) (by omega)) h
theorem cs_Fr {I J : Mem} {S : RS} {B : Bk} {sh : SHt} (h : CS B sh I S) (f : FrC 1 I J) : CS B sh J S := ⟨cb_Fr h.1 f, ShC_F h.2 f⟩
theorem th_first {J : Mem} {S : RS} {B : Bk} {sh : SHt} {p σ : Nat} (h : TH B J S) (hs : ShC J sh) (hO : BOK B) (hσ : σ < 4) (hz : (sh σ).2.1 ≤ 40) (hp : p < S.2.1) (hr : S.2.2.1.toInt + (sh σ).2.1 ≤ 2000) : ∃ K, f_X6_firstOtherwise (nI σ) (nI p) J = some (foS B (sh σ).2.2 p (sh σ).2.1 0 S, K) ∧ FrC 1 J K := s6_firstOtherwise hσ hz h.1 hp hr hO h.2.2.2 h.2.1 h.2.2.1 (hs σ hσ).2.1 (hs σ hσ).2.2
theorem th_set0 {J : Mem} {S : RS} {B : Bk} {f p : Nat} {v : Int32} (h : TH B J S) (hf : f < 5) (hb : GB f v) : TH B (wr J (2 + 8 * 1 + (f + 1)) p v) (setf S f p v) := by
  obtain ⟨g, c, z, b⟩ := h
  exact ⟨GS_set g hb, CR_set c (by omega), ZC_wr (ρ := 1) (f := f + 1) (by omega) z, ⟨fun k hk => by rw [wr_k _ _ _ (by omega)]; exact b.1 k hk, fun j hj => by rw [wr_k _ _ _ (by omega)]; exact b.2 j hj⟩⟩
theorem s6_isSheet (a : Int32) (I : Mem) : f_X6_isSheet a I = some (wth a 0 3, I) := by
  simp only [f_X6_isSheet, s6_within, bnd_some, z01 (wth_01 _ _ _)]
theorem s6_isSort (a : Int32) (I : Mem) : f_X6_isSort a I = some (wth a 0 2, I) := by
  simp only [f_X6_isSort, s6_within, bnd_some, z01 (wth_01 _ _ _)]
theorem s3_isMissing (σ : Nat) (I : Mem) : f_X3_isMissing σ I = some (if I (48 + 2 * σ) 1 = -1 then 1 else 0, I) := by rw [f_X3_isMissing, some_if]
theorem sh_or {I : Mem} {sh : SHt} (a : Int32) (hC : ShC I sh) (hG : ShG sh) : (∃ σ, σ < 4 ∧ a = nI σ ∧ (sh σ).2.1 ≤ 20 ∧ f_X6_refusalOf a I = some (0, I) ∧ ∀ J, ShM J sh → f_X7_sheetWrong a J = some (0, J)) ∨ ∃ v, ¬ v = 0 ∧ f_X6_refusalOf a I = some (v, I) ∧ ∀ J, ShM J sh → f_X7_sheetWrong a J = some (v, J) := by
  rcases hat_or a (N := 4) (by omega) with ⟨σ, hσ, rfl, u⟩ | ⟨_, u⟩
  · have u' : wth (nI σ) 0 3 = 1 := u
    obtain ⟨s1, s2, s3⟩ := hC σ hσ
    have hg := (hG σ hσ).2.2
    have eC : f_X6_refusalOf (nI σ) I = some (if (sh σ).1 = -1 then -11 else if (sh σ).2.1 ≤ 20 then 0 else -2, I) := by
      rw [f_X6_refusalOf, s6_isSheet, bnd_some, u', if_neg (by decide), if_pos (inb_t (by omega) (by omega)), cl_nI (by omega), s3_isMissing, bnd_some, s1, s2]
      by_cases h1 : (sh σ).1 = -1
      · rw [if_pos h1, if_neg (by decide), if_pos h1]
      · rw [if_neg h1, if_pos rfl, if_neg h1, if_pos (inb_t (by omega) (by omega)), show (20 : Int32) = nI 20 from rfl, some_if]
        by_cases h2 : (sh σ).2.1 ≤ 20
        · rw [if_pos ((nI_le' (by omega) (by omega)).mpr h2), if_pos h2]
        · rw [if_neg (fun hh => h2 ((nI_le' (by omega) (by omega)).mp hh)), if_neg h2]
    have eM : ∀ J, ShM J sh → f_X7_sheetWrong (nI σ) J = some (if (sh σ).1 = -1 then -11 else if (sh σ).2.1 ≤ 20 then 0 else -2, J) := by
      intro J hM
      obtain ⟨s1, s2, s3⟩ := hM σ hσ
      rw [f_X7_sheetWrong, s7_in, bnd_some, u', if_neg (by decide), if_pos (inb_t (by omega) (by omega)), cl_nI (by omega), s1, s2]
      by_cases h1 : (sh σ).1 = -1
      · rw [if_pos h1, if_pos h1]
      · rw [if_neg h1, if_neg h1, if_pos (inb_t (by omega) (by omega)), show (20 : Int32) = nI 20 from rfl, some_if]
        by_cases h2 : (sh σ).2.1 ≤ 20
        · rw [if_pos ((nI_le' (by omega) (by omega)).mpr h2), if_pos h2]
        · rw [if_neg (fun hh => h2 ((nI_le' (by omega) (by omega)).mp hh)), if_neg h2]
    by_cases h1 : (sh σ).1 = -1
    · exact Or.inr ⟨-11, by decide, by rw [eC, if_pos h1], fun J hJ => by rw [eM J hJ, if_pos h1]⟩
    · by_cases h2 : (sh σ).2.1 ≤ 20
      · exact Or.inl ⟨σ, hσ, rfl, h2, by rw [eC, if_neg h1, if_pos h2], fun J hJ => by rw [eM J hJ, if_neg h1, if_pos h2]⟩
      · exact Or.inr ⟨-2, by decide, by rw [eC, if_neg h1, if_neg h2], fun J hJ => by rw [eM J hJ, if_neg h1, if_neg h2]⟩
  · have u' : wth a 0 3 = 0 := u
    exact Or.inr ⟨-2, by decide, by rw [f_X6_refusalOf, s6_isSheet, bnd_some, u', if_pos rfl], fun J _ => by rw [f_X7_sheetWrong, s7_in, bnd_some, u', if_pos rfl]⟩
theorem sh_or2 {I : Mem} {S : RS} {sh : SHt} (a a2 : Int32) (hC : ShC I sh) (hG : ShG sh) (hc : I 2 8 = nI S.2.1) (hN : S.2.1 ≤ 6) : (∃ σ p, σ < 4 ∧ a = nI σ ∧ (sh σ).2.1 ≤ 20 ∧ p < S.2.1 ∧ a2 = nI p ∧ f_X6_refusalOf_ a a2 I = some (0, I) ∧ ∀ J, ShM J sh → J 56 0 = nI S.2.1 → f_X7_toldWrong a a2 J = some (0, J)) ∨ ∃ v, ¬ v = 0 ∧ f_X6_refusalOf_ a a2 I = some (v, I) ∧ ∀ J, ShM J sh → J 56 0 = nI S.2.1 → f_X7_toldWrong a a2 J = some (v, J) := by
  rcases sh_or a hC hG with ⟨σ, hσ, rfl, hz, e, e2⟩ | ⟨v, hv, e, e2⟩
  · rcases hat_or a2 (N := S.2.1) (by omega) with ⟨p, hp, rfl, u⟩ | ⟨_, u⟩
    · exact Or.inl ⟨σ, p, hσ, rfl, hz, hp, rfl, by rw [f_X6_refusalOf_, e, bnd_some, if_pos rfl, s6_isHat, bnd_some, hc, u, if_neg (by decide)], fun J h h2 => by rw [f_X7_toldWrong, e2 J h, bnd_some, if_pos rfl, s7_isOne, bnd_some, h2, u, if_neg (by decide)]⟩
    · exact Or.inr ⟨-5, by decide, by rw [f_X6_refusalOf_, e, bnd_some, if_pos rfl, s6_isHat, bnd_some, hc, u, if_pos rfl], fun J h h2 => by rw [f_X7_toldWrong, e2 J h, bnd_some, if_pos rfl, s7_isOne, bnd_some, h2, u, if_pos rfl]⟩
  · exact Or.inr ⟨v, hv, by rw [f_X6_refusalOf_, e, bnd_some, if_neg hv], fun J h h2 => by rw [f_X7_toldWrong, e2 J h, bnd_some, if_neg hv]⟩

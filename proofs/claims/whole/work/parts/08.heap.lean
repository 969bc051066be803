section HEAP
variable {G : GD} {l : Launch} {i d pc : Nat} {ls : LcT} {st : List AV} {h : AH} {Q : Option AV → AH → Prop}
theorem cellG_0 {k : Nat} (e : (sh k).1 = 0) : cellG G h k = .inr ((sh k).2.1, (sh k).2.2.mapIdx (fun i c => rv G (fv h k i c))) := by unfold cellG; rw [e]; rfl
theorem cellG_1 {k : Nat} (e : (sh k).1 = 1) : cellG G h k = .inl (G.2.2 1, (sh k).2.1, .inl (fun i => Int32.ofInt (h k i))) := by unfold cellG; rw [e]; rfl
theorem cellG_2 {k : Nat} (e : (sh k).1 = 2) : cellG G h k = .inl (G.2.2 2, (sh k).2.1, .inl (fun i => Int32.ofInt (h k i))) := by unfold cellG; rw [e]; rfl
theorem cellG_3 {k : Nat} (e : (sh k).1 = 3) : cellG G h k = .inl (G.2.2 3, (sh k).2.1, .inr (.inl (fun i => Int64.ofInt (h k i)))) := by unfold cellG; rw [e]; rfl
theorem cellG_q {k t : Nat} (e : (sh k).1 = t) (ht : 4 ≤ t) : cellG G h k = .inl (G.2.2 t, (sh k).2.1, .inr (.inr (.inr (.inr (fun i => if i < (sh k).2.1 then some (G.2.1 ((sh k).2.2.getD 0 0 + (sh k).2.2.getD 1 0 * i)) else none))))) := by
  unfold cellG
  rw [e]
  match t, ht with
  | n + 4, _ => rfl
theorem vwAt {ci : Nat} (h : ci < 8) : vwCl[ci]? = some (vwCl.getD ci ("", TX1, 0)) := by
  rw [List.getD_eq_getElem?_getD, List.getElem?_eq_getElem (show ci < vwCl.length from h)]; rfl
theorem fldAt_spec {own j ci k : Nat} (h : fldAt own j = some (ci, k)) : ∃ b : Bool, (own, j, ci, k, b) ∈ fldT := by
  unfold fldAt at h
  cases e : fldT.find? (fun e => e.1 == own && e.2.1 == j) with
  | none => rw [e] at h; cases h
  | some x =>
    rw [e] at h
    have hm := List.mem_of_find?_eq_some e
    have hp := List.find?_some e
    obtain ⟨x1, x2, x3, x4, x5⟩ := x
    simp only [Option.map_some, Option.some.injEq, Prod.mk.injEq] at h
    simp only [Bool.and_eq_true, beq_iff_eq] at hp
    obtain ⟨h1, h2⟩ := h
    obtain ⟨h3, h4⟩ := hp
    exact ⟨x5, by rw [← h1, ← h2, ← h3, ← h4]; exact hm⟩
theorem getD_cons {kds : List Nat} {j : Nat} (hj : j < kds.length) (z : Nat) : kds[j]? = some (kds.getD j z) := by
  rw [List.getD_eq_getElem?_getD, List.getElem?_eq_getElem hj]; rfl
theorem fv_ok (hO : Hok h) {k j : Nat} (e : (sh k).1 = 0) : avOk (fv h k j ((sh k).2.2.getD j 0)) := by
  have h1 := hO k j
  unfold slOk at h1
  rw [if_neg (by omega)] at h1
  generalize (sh k).2.2.getD j 0 = c at h1 ⊢
  match c, h1 with
  | 0, h1 =>
    have h2 : R32 (h k j) := by simpa [e] using h1
    exact h2
  | 1, h1 =>
    have h2 : R64 (h k j) := by simpa [e] using h1
    exact h2
  | 2, h1 =>
    have h2 : h k j = 0 ∨ h k j = 1 := by simpa [e] using h1
    show R32 (h k j)
    unfold R32; omega
  | t + 3, _ => trivial
theorem laysIn {ci : Nat} (h : ci < 8) : ∀ w ∈ u_ws (vwCl.getD ci ("", TX1, 0)).1 (vwCl.getD ci ("", TX1, 0)).2.1 (vwCl.getD ci ("", TX1, 0)).2.2, w ∈ wG := fun w hw => wG_of (cl_lay ci h w hw).1 (cl_lay ci h w hw).2
theorem wp_getf {x k ci j : Nat} (hd : decode (mrec i).2.2.1 pc = .ok (.getfield x, 3)) (hf : fldAt (mrec i).1 x = some (ci, j)) (hk : (sh k).1 = 0 ∧ (sh k).2.1 = ci)
    (kk : Wp G l i d (pc + 3) ls (fv h k j ((sh k).2.2.getD j 0) :: st) h Q) : Wp G l i d pc ls (vR k :: st) h Q := by
  intro p e s m args below meth c H locs la C hS hP hO hl hst
  obtain ⟨b, hm⟩ := fldAt_spec hf
  obtain ⟨hc8, hjN⟩ := fld_ok _ hm
  obtain ⟨hx, hb, -, -, hown, hts, -, ⟨-, hK, hN, -, -⟩, -⟩ := id C
  obtain ⟨s1, s2, -⟩ := sh_ok hk.1
  have hat : (wsG G h)[k]? = some (G.2.1 k, .inr (ci, (sh k).2.2.mapIdx (fun i c => rv G (fv h k i c)))) := by
    rw [wsG_at G h (sh_lt (by omega)), cellG_0 hk.1, hk.2]
  have hjl : j < (sh k).2.2.length := by rw [s2, hk.2]; exact hjN
  have hv : ((sh k).2.2.mapIdx (fun i c => rv G (fv h k i c)))[j]? = some (rv G (fv h k j ((sh k).2.2.getD j 0))) := by
    rw [List.getElem?_mapIdx, getD_cons hjl 0]; rfl
  have hd1 := cl_ok ci hc8 j hjN
  have K := kk p e s m args below meth c H locs la C hS hP hO hl (okc (fv_ok hO hk.1) (okt hst))
  cases b with
  | false =>
    have hw : (Cond.fieldLink (clsN (mrec i).1) x (vwCl.getD ci ("", TX1, 0)).1 ((vwCl.getD ci ("", TX1, 0)).2.1 j).2.1 ((vwCl.getD ci ("", TX1, 0)).2.1 j).2.2.1).before args s = true := hts _ (wG_of (fld_in _ hm) rfl)
    exact va_get (ws := wsG G h) (a := G.2.1 k) hx hb hts (laysIn hc8) hown hK hP k hat (vwAt hc8) j hjN hw (fun y hy => by rw [← hd1]; exact hy) hv hd K
  | true =>
    have hw := va_Nw.use (A := args) (w := .fieldLinkNest (clsN (mrec i).1) x (vwCl.getD ci ("", TX1, 0)).1 ((vwCl.getD ci ("", TX1, 0)).2.1 j).2.1 ((vwCl.getD ci ("", TX1, 0)).2.1 j).2.2.1 "OneStair") rfl (hN _ hm rfl)
    exact va_getN (ws := wsG G h) (a := G.2.1 k) hx hb hts (laysIn hc8) hown hK hP k hat (vwAt hc8) j hjN hw (fun y hy => by rw [← hd1]; exact hy) hv hd K
theorem map_set {k j : Nat} {z : Int} {v : Value} (hv : rv G (fv (hu h k j z) k j ((sh k).2.2.getD j 0)) = v) (hj : j < (sh k).2.2.length) :
    ((sh k).2.2.mapIdx (fun i c => rv G (fv h k i c))).set j v = (sh k).2.2.mapIdx (fun i c => rv G (fv (hu h k j z) k i c)) := by
  apply List.ext_getElem?
  intro a
  by_cases e : a = j
  · subst e
    rw [List.getElem?_set_self (by simpa using hj), List.getElem?_mapIdx, getD_cons hj 0]
    exact congrArg some hv.symm
  · rw [List.getElem?_set_ne (Ne.symm e), List.getElem?_mapIdx, List.getElem?_mapIdx]
    have : ∀ c, fv (hu h k j z) k a c = fv h k a c := fun c => by unfold fv; split <;> simp [hu, e]
    simp only [this]
theorem wp_putf {x k ci j : Nat} {z : Int} {v : AV} (hd : decode (mrec i).2.2.1 pc = .ok (.putfield x, 3)) (hf : fldAt (mrec i).1 x = some (ci, j)) (hk : (sh k).1 = 0 ∧ (sh k).2.1 = ci)
    (hv : ((sh k).2.2.getD j 9 = 0 ∧ v = vI z) ∨ ((sh k).2.2.getD j 9 = 1 ∧ v = vL z) ∨ ((sh k).2.2.getD j 9 = 2 ∧ v = vI z ∧ (z = 0 ∨ z = 1)))
    (kk : Wp G l i d (pc + 3) ls st (hu h k j z) Q) : Wp G l i d pc ls (v :: vR k :: st) h Q := by
  intro p e s m args below meth c H locs la C hS hP hO hl hst
  obtain ⟨b, hm⟩ := fldAt_spec hf
  obtain ⟨hc8, hjN⟩ := fld_ok _ hm
  obtain ⟨hx, hb, -, -, hown, hts, -, ⟨hin, hK, hN, -, -⟩, -⟩ := id C
  obtain ⟨s1, s2, s3⟩ := sh_ok hk.1
  have hat : (wsG G h)[k]? = some (G.2.1 k, .inr (ci, (sh k).2.2.mapIdx (fun i c => rv G (fv h k i c)))) := by
    rw [wsG_at G h (sh_lt (by omega)), cellG_0 hk.1, hk.2]
  have hjl : j < (sh k).2.2.length := by rw [s2, hk.2]; exact hjN
  obtain ⟨t0, t1, t2⟩ := s3 j hjl
  have hg : (sh k).2.2.getD j 9 = (sh k).2.2.getD j 0 := by
    have h1 := getD_cons hjl 9
    rw [getD_cons hjl 0] at h1
    exact (Option.some.inj h1).symm
  rw [hk.2] at t0 t1 t2
  have hd1 := cl_ok ci hc8 j hjN
  have hty := cl_ty ci hc8 j hjN
  have hsl : slOk k j z ∧ rv G (fv (hu h k j z) k j ((sh k).2.2.getD j 0)) = rv G v ∧ ((vwCl.getD ci ("", TX1, 0)).2.1 j).2.2.2 = false ∧ narrow (tyCl ci j) (rv G v) = rv G v ∧ fits (tyCl ci j) (rv G v) = true := by
    rcases hv with ⟨g, rfl⟩ | ⟨g, rfl⟩ | ⟨g, rfl, hz⟩
    · have hr : R32 z := okh hst
      rw [hg] at g
      refine ⟨by unfold slOk; rw [hk.1, g]; simp; exact hr, by rw [g]; show rv G (vI (hu h k j z k j)) = _; simp [hu], (t0 (hg.trans g)).2, ?_, ?_⟩
      · rw [(t0 (hg.trans g)).1]; rfl
      · rw [(t0 (hg.trans g)).1]; rfl
    · have hr : R64 z := okh hst
      rw [hg] at g
      refine ⟨by unfold slOk; rw [hk.1, g]; simp; exact hr, by rw [g]; show rv G (vL (hu h k j z k j)) = _; simp [hu], (t1 (hg.trans g)).2, ?_, ?_⟩
      · rw [(t1 (hg.trans g)).1]; rfl
      · rw [(t1 (hg.trans g)).1]; rfl
    · rw [hg] at g
      refine ⟨by unfold slOk; rw [hk.1, g]; simp; exact hz, by rw [g]; show rv G (vI (hu h k j z k j)) = _; simp [hu], (t2 (hg.trans g)).2, ?_, ?_⟩
      · rw [(t2 (hg.trans g)).1]
        rcases hz with rfl | rfl
        · exact (by decide : narrow .boolean (.int (Int32.ofInt 0)) = .int (Int32.ofInt 0))
        · exact (by decide : narrow .boolean (.int (Int32.ofInt 1)) = .int (Int32.ofInt 1))
      · rw [(t2 (hg.trans g)).1]
        rcases hz with rfl | rfl
        · exact (by decide : fits .boolean (.int (Int32.ofInt 0)) = true)
        · exact (by decide : fits .boolean (.int (Int32.ofInt 1)) = true)
  obtain ⟨hs1, hs2, hs3, hs4, hs5⟩ := hsl
  have key : ∀ (H1 : Heap) (locs1 : List Loc), va_P G.1 vwCl ((wsG G h).set k (G.2.1 k, .inr (ci, ((sh k).2.2.mapIdx (fun i c => rv G (fv h k i c))).set j (rv G v)))) H1 → va_D (AG G) ((wsG G h).set k (G.2.1 k, .inr (ci, ((sh k).2.2.mapIdx (fun i c => rv G (fv h k i c))).set j (rv G v)))) → va_S (AG G) s.heap H1 locs1 → W p l e (rmD d) s m args below meth c H1 locs1 0 0 (MQ below (QcG G Q) args s 0 0 (AG G)) (F0 m (pc + 3) la (st.map (rv G))) := by
    intro H1 locs1 hP1 _ hS1
    refine kk p e s m args below meth c H1 locs1 la C hS1 ?_ (hO.put hs1) hl (okt (okt hst))
    rw [wsG_set G (h := h) (k := k) (fun a ha => hu_ne ha), cellG_0 hk.1, hk.2, ← map_set hs2 hjl]
    exact hP1
  cases b with
  | false =>
    have hw : (Cond.fieldLink (clsN (mrec i).1) x (vwCl.getD ci ("", TX1, 0)).1 ((vwCl.getD ci ("", TX1, 0)).2.1 j).2.1 ((vwCl.getD ci ("", TX1, 0)).2.1 j).2.2.1).before args s = true := hts _ (wG_of (fld_in _ hm) rfl)
    exact va_put (ws := wsG G h) (a := G.2.1 k) hx hb hts (laysIn hc8) (tyCl ci) (cl_ty ci hc8) (cl_nm ci hc8) hown hK hP (wsG_D h hin) hS k hat (vwAt hc8) j hjN hw (fun y hy => by rw [← hd1]; exact hy) hs3 hty hs4 hs5 (by simpa using hjl) hd key
  | true =>
    have hw := va_Nw.use (A := args) (w := .fieldLinkNest (clsN (mrec i).1) x (vwCl.getD ci ("", TX1, 0)).1 ((vwCl.getD ci ("", TX1, 0)).2.1 j).2.1 ((vwCl.getD ci ("", TX1, 0)).2.1 j).2.2.1 "OneStair") rfl (hN _ hm rfl)
    exact va_putN (ws := wsG G h) (a := G.2.1 k) hx hb hts (laysIn hc8) (tyCl ci) (cl_ty ci hc8) (cl_nm ci hc8) hown hK hP (wsG_D h hin) hS k hat (vwAt hc8) j hjN hw (fun y hy => by rw [← hd1]; exact hy) hs3 hty hs4 hs5 (by simpa using hjl) hd key
-- arrays
theorem slOk_1 (hO : Hok h) {k j : Nat} (e : (sh k).1 = 1) : R32 (h k j) := by
  have h1 := hO k j
  unfold slOk at h1
  simpa [e] using h1
theorem slOk_2 (hO : Hok h) {k j : Nat} (e : (sh k).1 = 2) : -128 ≤ h k j ∧ h k j ≤ 127 := by
  have h1 := hO k j
  unfold slOk at h1
  simpa [e] using h1
theorem slOk_3 (hO : Hok h) {k j : Nat} (e : (sh k).1 = 3) : R64 (h k j) := by
  have h1 := hO k j
  unfold slOk at h1
  simpa [e] using h1
theorem wp_iald {k : Nat} {j : Int} (hd : decode (mrec i).2.2.1 pc = .ok (.iaload, 1)) (hk : (sh k).1 = 1) (hj : 0 ≤ j ∧ j < (sh k).2.1) (kk : Wp G l i d (pc + 1) ls (vI (h k j.toNat) :: st) h Q) : Wp G l i d pc ls (vI j :: vR k :: st) h Q := by
  intro p e s m args below meth c H locs la C hS hP hO hl hst
  have hr : R32 j := okh hst
  have hat : (wsG G h)[k]? = some (G.2.1 k, .inl (G.2.2 1, (sh k).2.1, .inl (fun i => Int32.ofInt (h k i)))) := by rw [wsG_at G h (sh_lt (by omega)), cellG_1 hk]
  have K := kk p e s m args below meth c H locs la C hS hP hO hl (okc (show avOk (vI (h k j.toNat)) from slOk_1 hO hk) (okt (okt hst)))
  refine va_iald (ws := wsG G h) (a := G.2.1 k) C.1 C.2.1 C.2.2.2.2.2.2.2.1.2.1 hP k 0 hat rfl (vpin hr hj.1 hj.2) hd ?_
  rw [clamp hr]
  exact K
theorem wp_bald {k : Nat} {j : Int} (hd : decode (mrec i).2.2.1 pc = .ok (.baload, 1)) (hk : (sh k).1 = 2) (hj : 0 ≤ j ∧ j < (sh k).2.1) (kk : Wp G l i d (pc + 1) ls (vI (h k j.toNat) :: st) h Q) : Wp G l i d pc ls (vI j :: vR k :: st) h Q := by
  intro p e s m args below meth c H locs la C hS hP hO hl hst
  have hr : R32 j := okh hst
  have hat : (wsG G h)[k]? = some (G.2.1 k, .inl (G.2.2 2, (sh k).2.1, .inl (fun i => Int32.ofInt (h k i)))) := by rw [wsG_at G h (sh_lt (by omega)), cellG_2 hk]
  have hb2 := slOk_2 hO (j := j.toNat) hk
  have K := kk p e s m args below meth c H locs la C hS hP hO hl (okc (show R32 (h k j.toNat) by unfold R32; omega) (okt (okt hst)))
  refine va_bald (ws := wsG G h) (a := G.2.1 k) C.1 C.2.1 C.2.2.2.2.2.2.2.1.2.1 hP k 1 hat rfl (vpin hr hj.1 hj.2) hd ?_
  rw [clamp hr]
  exact K
theorem wp_lald {k : Nat} {j : Int} (hd : decode (mrec i).2.2.1 pc = .ok (.laload, 1)) (hk : (sh k).1 = 3) (hj : 0 ≤ j ∧ j < (sh k).2.1) (kk : Wp G l i d (pc + 1) ls (vL (h k j.toNat) :: st) h Q) : Wp G l i d pc ls (vI j :: vR k :: st) h Q := by
  intro p e s m args below meth c H locs la C hS hP hO hl hst
  have hr : R32 j := okh hst
  have hat : (wsG G h)[k]? = some (G.2.1 k, .inl (G.2.2 3, (sh k).2.1, .inr (.inl (fun i => Int64.ofInt (h k i))))) := by rw [wsG_at G h (sh_lt (by omega)), cellG_3 hk]
  have K := kk p e s m args below meth c H locs la C hS hP hO hl (okc (show avOk (vL (h k j.toNat)) from slOk_3 hO hk) (okt (okt hst)))
  refine va_lald (ws := wsG G h) (a := G.2.1 k) C.1 C.2.1 C.2.2.2.2.2.2.2.1.2.1 hP k 2 hat rfl (vpin hr hj.1 hj.2) hd ?_
  rw [clamp hr]
  exact K
theorem wp_iast {k : Nat} {j z : Int} (hd : decode (mrec i).2.2.1 pc = .ok (.iastore, 1)) (hk : (sh k).1 = 1) (hj : 0 ≤ j ∧ j < (sh k).2.1) (kk : Wp G l i d (pc + 1) ls st (hu h k j.toNat z) Q) : Wp G l i d pc ls (vI z :: vI j :: vR k :: st) h Q := by
  intro p e s m args below meth c H locs la C hS hP hO hl hst
  have hz : R32 z := okh hst
  have hr : R32 j := okh (okt hst)
  have hat : (wsG G h)[k]? = some (G.2.1 k, .inl (G.2.2 1, (sh k).2.1, .inl (fun i => Int32.ofInt (h k i)))) := by rw [wsG_at G h (sh_lt (by omega)), cellG_1 hk]
  refine va_iast (ws := wsG G h) (a := G.2.1 k) C.1 C.2.1 C.2.2.2.2.2.2.2.1.2.1 hP (wsG_D h C.2.2.2.2.2.2.2.1.1) hS k 0 hat rfl (vpin hr hj.1 hj.2) hd fun H1 locs1 hP1 _ hS1 => ?_
  refine kk p e s m args below meth c H1 locs1 la C hS1 ?_ (hO.put (by unfold slOk; simp [hk]; exact hz)) hl (okt (okt (okt hst)))
  rw [wsG_set G (h := h) (k := k) (fun a ha => hu_ne ha), cellG_1 hk]
  have e9 : (fun a => Int32.ofInt (hu h k j.toNat z k a)) = upd (fun a => Int32.ofInt (h k a)) (Int32.ofInt j).toNatClampNeg (Int32.ofInt z) := by
    funext a
    rw [clamp hr, hu_at]
    unfold upd
    split <;> rfl
  rw [e9]
  exact hP1
theorem wp_bast {k : Nat} {j z : Int} (hd : decode (mrec i).2.2.1 pc = .ok (.bastore, 1)) (hk : (sh k).1 = 2) (hj : 0 ≤ j ∧ j < (sh k).2.1) (kk : Wp G l i d (pc + 1) ls st (hu h k j.toNat (w8 z)) Q) : Wp G l i d pc ls (vI z :: vI j :: vR k :: st) h Q := by
  intro p e s m args below meth c H locs la C hS hP hO hl hst
  have hz : R32 z := okh hst
  have hr : R32 j := okh (okt hst)
  have h8 : -128 ≤ w8 z ∧ w8 z ≤ 127 := by
    have h1 := Int8.toInt_lt (Int32.ofInt z).toInt8
    have h2 := Int8.le_toInt (Int32.ofInt z).toInt8
    unfold w8; omega
  have hat : (wsG G h)[k]? = some (G.2.1 k, .inl (G.2.2 2, (sh k).2.1, .inl (fun i => Int32.ofInt (h k i)))) := by rw [wsG_at G h (sh_lt (by omega)), cellG_2 hk]
  refine va_bast (ws := wsG G h) (a := G.2.1 k) C.1 C.2.1 C.2.2.2.2.2.2.2.1.2.1 hP (wsG_D h C.2.2.2.2.2.2.2.1.1) hS k 1 hat rfl (vpin hr hj.1 hj.2) hd fun H1 locs1 hP1 _ hS1 => ?_
  refine kk p e s m args below meth c H1 locs1 la C hS1 ?_ (hO.put (by unfold slOk; simp [hk]; exact h8)) hl (okt (okt (okt hst)))
  rw [wsG_set G (h := h) (k := k) (fun a ha => hu_ne ha), cellG_2 hk]
  have e9 : (fun a => Int32.ofInt (hu h k j.toNat (w8 z) k a)) = upd (fun a => Int32.ofInt (h k a)) (Int32.ofInt j).toNatClampNeg (vp_nar .byte (Int32.ofInt z)) := by
    funext a
    rw [clamp hr, hu_at, vp_nar_byte]
    unfold upd
    split
    · apply Int32.toInt_inj.mp
      rw [Int8.toInt_toInt32, of32 (by unfold R32; omega)]; rfl
    · rfl
  rw [e9]
  exact hP1
theorem wp_last {k : Nat} {j z : Int} (hd : decode (mrec i).2.2.1 pc = .ok (.lastore, 1)) (hk : (sh k).1 = 3) (hj : 0 ≤ j ∧ j < (sh k).2.1) (kk : Wp G l i d (pc + 1) ls st (hu h k j.toNat z) Q) : Wp G l i d pc ls (vL z :: vI j :: vR k :: st) h Q := by
  intro p e s m args below meth c H locs la C hS hP hO hl hst
  have hz : R64 z := okh hst
  have hr : R32 j := okh (okt hst)
  have hat : (wsG G h)[k]? = some (G.2.1 k, .inl (G.2.2 3, (sh k).2.1, .inr (.inl (fun i => Int64.ofInt (h k i))))) := by rw [wsG_at G h (sh_lt (by omega)), cellG_3 hk]
  refine va_last (ws := wsG G h) (a := G.2.1 k) C.1 C.2.1 C.2.2.2.2.2.2.2.1.2.1 hP (wsG_D h C.2.2.2.2.2.2.2.1.1) hS k 2 hat rfl (vpin hr hj.1 hj.2) hd fun H1 locs1 hP1 _ hS1 => ?_
  refine kk p e s m args below meth c H1 locs1 la C hS1 ?_ (hO.put (by unfold slOk; simp [hk]; exact hz)) hl (okt (okt (okt hst)))
  rw [wsG_set G (h := h) (k := k) (fun a ha => hu_ne ha), cellG_3 hk]
  have e9 : (fun a => Int64.ofInt (hu h k j.toNat z k a)) = vp_updL (fun a => Int64.ofInt (h k a)) (Int32.ofInt j).toNatClampNeg (Int64.ofInt z) := by
    funext a
    rw [clamp hr, hu_at]
    unfold vp_updL
    split <;> rfl
  rw [e9]
  exact hP1
theorem wp_aald {k : Nat} {j : Int} (hd : decode (mrec i).2.2.1 pc = .ok (.aaload, 1)) (hk : 4 ≤ (sh k).1 ∧ (sh k).1 ≤ 6) (hj : 0 ≤ j ∧ j < (sh k).2.1) (kk : Wp G l i d (pc + 1) ls (vR ((sh k).2.2.getD 0 0 + (sh k).2.2.getD 1 0 * j.toNat) :: st) h Q) : Wp G l i d pc ls (vI j :: vR k :: st) h Q := by
  intro p e s m args below meth c H locs la C hS hP hO hl hst
  have hr : R32 j := okh hst
  have hat : (wsG G h)[k]? = some (G.2.1 k, .inl (G.2.2 (sh k).1, (sh k).2.1, .inr (.inr (.inr (.inr (fun i => if i < (sh k).2.1 then some (G.2.1 ((sh k).2.2.getD 0 0 + (sh k).2.2.getD 1 0 * i)) else none)))))) := by rw [wsG_at G h (sh_lt (by omega)), cellG_q rfl hk.1]
  have K := kk p e s m args below meth c H locs la C hS hP hO hl (okc trivial (okt (okt hst)))
  have hin := vpin hr hj.1 hj.2
  have hlt : (Int32.ofInt j).toNatClampNeg < (sh k).2.1 := Nat.not_le.mp fun q => hin (Or.inr q)
  obtain ⟨ty, hty, hprim⟩ : ∃ ty, ArrOfT s (G.2.2 (sh k).1) ty ∧ refKind ty = true := by
    have hK := C.2.2.2.2.2.2.2.1.2.1
    rcases (show (sh k).1 = 4 ∨ (sh k).1 = 5 ∨ (sh k).1 = 6 by omega) with e | e | e
    · rw [e]; exact ⟨_, (hK.2 3 _ rfl).1, rfl⟩
    · rw [e]; exact ⟨_, (hK.2 4 _ rfl).1, rfl⟩
    · rw [e]; exact ⟨_, (hK.2 5 _ rfl).1, rfl⟩
  refine W.aald (v := va_rf (if (Int32.ofInt j).toNatClampNeg < (sh k).2.1 then some (G.2.1 ((sh k).2.2.getD 0 0 + (sh k).2.2.getD 1 0 * (Int32.ofInt j).toNatClampNeg)) else none)) (ty := ty) C.1 C.2.1 (hP k _ hat) (hty (sh k).2.1 (fun j => va_rf (if j < (sh k).2.1 then some (G.2.1 ((sh k).2.2.getD 0 0 + (sh k).2.2.getD 1 0 * j)) else none))) hprim (fun q => by cases q) (by show ¬ (_ < 0 ∨ (arrV _ _ _).slots.size ≤ _); rw [arrV_size]; exact hin) (by show (arrV _ _ _).slots[_]? = _; rw [arrV_read _ _ hlt]) rfl rfl hd ?_
  rw [if_pos hlt, clamp hr]
  exact K
theorem wp_abv {j : Int} (hd : decode (mrec i).2.2.1 pc = .ok (.iaload, 1)) (hj : 0 ≤ j ∧ j < 6) (kk : Wp G l i d (pc + 1) ls (vI (aboveF j.toNat) :: st) h Q) : Wp G l i d pc ls (vI j :: vR 2000 :: st) h Q := by
  intro p e s m args below meth c H locs la C hS hP hO hl hst
  have hr : R32 j := okh hst
  have ha : R32 (aboveF j.toNat) := by
    have h6 : j.toNat < 6 := by omega
    generalize j.toNat = n at h6
    match n, h6 with
    | 0, _ | 1, _ | 2, _ | 3, _ | 4, _ | 5, _ => unfold R32 aboveF; simp
  have K := kk p e s m args below meth c H locs la C hS hP hO hl (okc ha (okt (okt hst)))
  refine va_ti C.1 C.2.1 C.2.2.2.2.2.2.2.2.2.2.1 hS (vpin hr hj.1 (by omega)) (v := .int (Int32.ofInt (aboveF j.toNat))) ?_ hd K
  rw [clamp hr]
theorem wp_gets (hd : decode (mrec i).2.2.1 pc = .ok (.getstatic abvI, 3)) (ho : (mrec i).1 = 1) (kk : Wp G l i d (pc + 3) ls (vR 2000 :: st) h Q) : Wp G l i d pc ls st h Q := by
  intro p e s m args below meth c H locs la C hS hP hO hl hst
  have K := kk p e s m args below meth c H locs la C hS hP hO hl (okc trivial hst)
  have hw : (Cond.fieldLink (clsN (mrec i).1) abvI RX1 "ABOVE" "[I").before args s = true := by
    rw [ho]; exact C.2.2.2.2.2.1 _ (wG_of abv_in rfl)
  exact va_gets C.1 C.2.1 C.2.2.2.2.2.2.2.2.2.1 hS C.2.2.2.2.1 hw (fun y hy => hy) hd K
-- constants
theorem wp_ldc {x : Nat} {z : Int} (hd : decode (mrec i).2.2.1 pc = .ok (.ldc x, 2)) (hc : ((mrec i).1, x, z) ∈ cstT) (kk : Wp G l i d (pc + 2) ls (vI z :: st) h Q) : Wp G l i d pc ls st h Q := by
  intro p e s m args below meth c H locs la C hS hP hO hl hst
  obtain ⟨h1, h2⟩ := cst_in _ hc
  exact lv_ldc C.1 C.2.1 C.2.2.2.2.1 (C.2.2.2.2.2.1 _ (wG_of h1 rfl)) hd (kk p e s m args below meth c H locs la C hS hP hO hl (okc (show R32 z from h2) hst))
theorem wp_ldcw {x : Nat} {z : Int} (hd : decode (mrec i).2.2.1 pc = .ok (.ldc_w x, 3)) (hc : ((mrec i).1, x, z) ∈ cstT) (kk : Wp G l i d (pc + 3) ls (vI z :: st) h Q) : Wp G l i d pc ls st h Q := by
  intro p e s m args below meth c H locs la C hS hP hO hl hst
  obtain ⟨h1, h2⟩ := cst_in _ hc
  exact lv_ldcw C.1 C.2.1 C.2.2.2.2.1 (C.2.2.2.2.2.1 _ (wG_of h1 rfl)) hd (kk p e s m args below meth c H locs la C hS hP hO hl (okc (show R32 z from h2) hst))
theorem wp_ldc2 {x : Nat} {z : Int} (hd : decode (mrec i).2.2.1 pc = .ok (.ldc2_w x, 3)) (hc : ((mrec i).1, x, z) ∈ cslT) (kk : Wp G l i d (pc + 3) ls (vL z :: st) h Q) : Wp G l i d pc ls st h Q := by
  intro p e s m args below meth c H locs la C hS hP hO hl hst
  obtain ⟨h1, h2⟩ := csl_in _ hc
  exact lv_ldc2 C.1 C.2.1 C.2.2.2.2.1 (C.2.2.2.2.2.1 _ (wG_of h1 rfl)) hd (kk p e s m args below meth c H locs la C hS hP hO hl (okc (show R64 z from h2) hst))
theorem wp_ldcS {x j : Nat} (hd : decode (mrec i).2.2.1 pc = .ok (.ldc x, 2)) (ho : (mrec i).1 = 5) (hj : j < 12) (hx : strI.getD j 0 = x) (kk : Wp G l i d (pc + 2) ls (vR (1000 + j) :: st) h Q) : Wp G l i d pc ls st h Q := by
  intro p e s m args below meth c H locs la C hS hP hO hl hst
  have hz := C.2.2.2.2.2.2.2.1.2.2.2.2 j hj
  rw [hx] at hz
  have hown := C.2.2.2.2.1
  rw [ho] at hown
  exact va_ldcS C.1 C.2.1 hown hz hd (kk p e s m args below meth c H locs la C hS hP hO hl (okc trivial hst))
end HEAP

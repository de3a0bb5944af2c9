/-! MY OWN: the functions that are generated from the methods' bytecode -/
def zzr (σ : Zm) (o : Nat) : Zm := (fun p j => if p = o then 0 else σ.1 p j, fun p j => if p = o then 0 else σ.2 p j)
def zzs (σ : Zm) (o k : Nat) : Zm := (fun p j => if o ≤ p ∧ p < o + k then 0 else σ.1 p j, fun p j => if o ≤ p ∧ p < o + k then 0 else σ.2 p j)
def zabs (A : Int) : Int := if 0 ≤ A then A else zw (-A)
def zLv (j : Nat) : Int := ([0, 1, 2, 3, 4, 4, 4, 4, 4, 4, 5, 5, 6, 6, 7] : List Int).getD j 0
def zWc (j : Nat) : Int := (zWbyt.getD j 0).toInt
def fX_within (σ : Zm) (x0 : Int) (x1 : Int) (x2 : Int) : Zr :=
  if x0 < x1 then
    some (0, σ)
  else
  if x2 < x0 then
    some (0, σ)
  else
  some (1, σ)
def fX_isPiece (σ : Zm) (x0 : Int) : Zr :=
  zbi (fX_within σ x0 0 3) fun v2 σ1 =>
  some (zb v2, σ1)
def fX_isVoice (σ : Zm) (x0 : Int) : Zr :=
  zbi (fX_within σ x0 0 3) fun v2 σ1 =>
  some (zb v2, σ1)
def fX_isPitch (σ : Zm) (x0 : Int) : Zr :=
  zbi (fX_within σ x0 0 60) fun v2 σ1 =>
  some (zb v2, σ1)
def fX_isSubject (σ : Zm) (x0 : Int) : Zr :=
  zbi (fX_within σ x0 0 5) fun v2 σ1 =>
  some (zb v2, σ1)
def fX_isSet (σ : Zm) (x0 : Int) : Zr :=
  zbi (fX_within σ x0 0 15) fun v2 σ1 =>
  some (zb v2, σ1)
def fX_isNote (σ : Zm) (x0 : Int) (x1 : Int) (x2 : Int) (x3 : Int) : Zr :=
  zbi (fX_within σ x1 1 x2) fun v2 σ1 =>
  if v2 = 0 then
    some (0, σ1)
  else
  zbi (fX_within σ1 x0 0 (zw (x3 - x1))) fun v4 σ3 =>
  if v4 = 0 then
    some (0, σ3)
  else
  some (1, σ3)
def fX_boundedStep (σ : Zm) (x0 : Int) : Zr :=
  zlet (min 12 x0) fun v1 =>
  zlet (max (-12) v1) fun v2 =>
  some (v2, σ)
def fX_formCode (σ : Zm) (x0 : Int) : Zr :=
  zlet (zw (Int.tmod x0 25)) fun v1 =>
  zlet (zw (Int.tmod (zw (Int.tdiv x0 25)) 9)) fun v2 =>
  zlet (zw (Int.tmod (zw (Int.tdiv x0 225)) 2)) fun v3 =>
  some ((((10000 * (Int.tdiv x0 450)) + (5000 * v3)) + (100 * v2)) + v1, σ)
def fX_formOfThree (σ : Zm) (x0 : Int) : Zr :=
  zlet (zw ((Int.tmod x0 11) - 5)) fun v1 =>
  zlet (zw (Int.tmod (zw (Int.tdiv x0 11)) 4)) fun v2 =>
  zlet (zw (Int.tdiv x0 44)) fun v3 =>
  some ((((v3 * 225) + (v2 * 25)) + v1) + 12, σ)
def fJ6_bitCount_0f7a4 (σ : Zm) (x0 : Int) : Zr :=
  zlet (zw (x0 - (zand (zushr x0 1) 1431655765))) fun v1 =>
  zlet (zw ((zand v1 858993459) + (zand (zushr v1 2) 858993459))) fun v2 =>
  zlet (zw ((zand (v2 + (zushr v2 4)) 252645135) + (zushr (zand (v2 + (zushr v2 4)) 252645135) 8))) fun v3 =>
  zlet (zw (v3 + (zushr v3 16))) fun v4 =>
  some (zand v4 63, σ)
def fJ9_floorMod_7cf53 (σ : Zm) (x0 : Int) (x1 : Int) : Zr :=
  zdv x1 <|
  zlet (zw (Int.tmod x0 x1)) fun v1 =>
  if 0 ≤ zxor x0 x1 then
    some (v1, σ)
  else
  if v1 = 0 then
    some (v1, σ)
  else
  some (v1 + x1, σ)
def fJ7_fill_53178_5 : Nat → Nat → Int → Int → Int → Zm → Zr
  | 0, _, _, _, _, _ => none
  | n + 1, o0, x1, x2, x3, σ =>
    zlet (fun (o0 : Nat) (x1 : Int) (x2 : Int) (x3 : Int) (σ : Zm) => fJ7_fill_53178_5 n o0 x1 x2 x3 σ) fun R0 =>
    if x3 ≤ x2 then
      some (0, σ)
    else
    zck x2 (zLN o0) <| zlet (zst σ o0 x2.toNat x1) fun σ1 =>
    R0 o0 x1 (zw (x2 + 1)) x3 σ1
def fJ7_fill_53178 (σ : Zm) (o0 : Nat) (x1 : Int) : Zr :=
  fJ7_fill_53178_5 5000 o0 x1 0 ((zLN o0 : Nat) : Int) σ
def fL_fill_12 : Nat → Nat → Int → Int → Int → Int → Zm → (Nat → Int → Zm → Zr) → Zr
  | 0, _, _, _, _, _, _, _ => none
  | n + 1, o0, x3, x4, x5, x6, σ, K52 =>
    zlet (fun (o0 : Nat) (x3 : Int) (x4 : Int) (x5 : Int) (x6 : Int) (σ : Zm) => fL_fill_12 n o0 x3 x4 x5 x6 σ K52) fun R0 =>
    if x5 ≤ x6 then
      K52 o0 x5 σ
    else
    if ((zLN (o0 + 2) : Nat) : Int) ≤ x6 then
      K52 o0 x5 σ
    else
    zck x6 (zLN (o0 + 1)) <| zlet (zst σ (o0 + 1) x6.toNat x3) fun σ3 =>
    zck x6 (zLN (o0 + 2)) <| zlet (zst σ3 (o0 + 2) x6.toNat x4) fun σ4 =>
    R0 o0 x3 x4 x5 (zw (x6 + 1)) σ4
def fL_fill_52 (o0 : Nat) (x5 : Int) (σ : Zm) : Zr :=
  zbi (fX_within σ x5 0 (zw (((zLN (o0 + 2) : Nat) : Int) - 1))) fun v9 σ8 =>
  if v9 = 0 then
    some (0, σ8)
  else
  zck x5 (zLN (o0 + 2)) <| zlet (zrd σ8 (o0 + 2) x5.toNat) fun v10 =>
  if ¬ v10 = 2 then
    some (0, σ8)
  else
  zck x5 (zLN (o0 + 2)) <| zlet (zst σ8 (o0 + 2) x5.toNat 1) fun σ11 =>
  some (0, σ11)
def fL_fill (σ : Zm) (o0 : Nat) (x1 : Int) (x2 : Int) (x3 : Int) (x4 : Int) : Zr :=
  zlet (zw (x1 + x2)) fun v1 =>
  zlet (max 0 x1) fun v2 =>
  fL_fill_12 5000 o0 x3 x4 v1 v2 σ fun o6 y7 σ5 =>
  fL_fill_52 o6 y7 σ5
def fL_sing (σ : Zm) (o0 : Nat) (x1 : Int) (x2 : Int) (x3 : Int) : Zr :=
  zbv (fL_fill σ o0 x1 x3 x2 2) fun σ1 =>
  zbi (fX_within σ1 x1 0 (zw (((zLN (o0 + 2) : Nat) : Int) - 1))) fun v3 σ2 =>
  if v3 = 0 then
    some (0, σ2)
  else
  zck x1 (zLN (o0 + 2)) <| zlet (zst σ2 (o0 + 2) x1.toNat 1) fun σ4 =>
  some (0, σ4)
def fL_silence (σ : Zm) (o0 : Nat) (x1 : Int) (x2 : Int) : Zr :=
  zbv (fL_fill σ o0 x1 x2 0 0) fun σ1 =>
  some (0, σ1)
def fL_beats_6 : Nat → Nat → Int → Zm → Zr
  | 0, _, _, _ => none
  | n + 1, o0, x1, σ =>
    zlet (fun (o0 : Nat) (x1 : Int) (σ : Zm) => fL_beats_6 n o0 x1 σ) fun R0 =>
    if x1 ≤ 0 then
      some (0, σ)
    else
    zck (zw (x1 - 1)) (zLN (o0 + 2)) <| zlet (zrd σ (o0 + 2) (zw (x1 - 1)).toNat) fun v1 =>
    if v1 = 0 then
      R0 o0 (zw (x1 + (-1))) σ
    else
    some (x1, σ)
def fL_beats (σ : Zm) (o0 : Nat) : Zr :=
  fL_beats_6 5000 o0 ((zLN (o0 + 2) : Nat) : Int) σ
def fL_noteAhead_12 : Nat → Nat → Int → Zm → Zr
  | 0, _, _, _ => none
  | n + 1, o0, x2, σ =>
    zlet (fun (o0 : Nat) (x2 : Int) (σ : Zm) => fL_noteAhead_12 n o0 x2 σ) fun R0 =>
    if x2 < 0 then
      some ((-1), σ)
    else
    zck x2 (zLN (o0 + 2)) <| zlet (zrd σ (o0 + 2) x2.toNat) fun v3 =>
    if ¬ v3 = 1 then
      R0 o0 (zw (x2 + (-1))) σ
    else
    some (x2, σ)
def fL_noteAhead (σ : Zm) (o0 : Nat) (x1 : Int) : Zr :=
  zlet (min x1 ((zLN (o0 + 2) : Nat) : Int)) fun v1 =>
  zlet (zw (v1 - 1)) fun v2 =>
  fL_noteAhead_12 5000 o0 v2 σ
def fL_restsAhead_14 : Nat → Nat → Int → Int → Zm → Zr
  | 0, _, _, _, _ => none
  | n + 1, o0, x2, x3, σ =>
    zlet (fun (o0 : Nat) (x2 : Int) (x3 : Int) (σ : Zm) => fL_restsAhead_14 n o0 x2 x3 σ) fun R0 =>
    if x3 < 0 then
      some (x2, σ)
    else
    zck x3 (zLN (o0 + 2)) <| zlet (zrd σ (o0 + 2) x3.toNat) fun v3 =>
    if ¬ v3 = 0 then
      some (x2, σ)
    else
    R0 o0 (zw (x2 + 1)) (zw (x3 + (-1))) σ
def fL_restsAhead (σ : Zm) (o0 : Nat) (x1 : Int) : Zr :=
  zlet (min x1 ((zLN (o0 + 2) : Nat) : Int)) fun v1 =>
  zlet (zw (v1 - 1)) fun v2 =>
  fL_restsAhead_14 5000 o0 0 v2 σ
def fL_sounds (σ : Zm) (o0 : Nat) (x1 : Int) : Zr :=
  zbi (fX_within σ x1 0 (zw (((zLN (o0 + 2) : Nat) : Int) - 1))) fun v2 σ1 =>
  if v2 = 0 then
    some (0, σ1)
  else
  zck x1 (zLN (o0 + 2)) <| zlet (zrd σ1 (o0 + 2) x1.toNat) fun v3 =>
  if v3 = 0 then
    some (0, σ1)
  else
  some (1, σ1)
def fL_take (σ : Zm) (o0 : Nat) (o1 : Nat) : Zr :=
  zlet (min ((zLN (o0 + 2) : Nat) : Int) ((zLN (o1 + 2) : Nat) : Int)) fun v1 =>
  if ((0 : Int) ≤ 0 ∧ (0 : Int) ≤ 0 ∧ (0 : Int) ≤ v1) ∧ 0 + v1 ≤ ((zLN (o1 + 1) : Nat) : Int) ∧ 0 + v1 ≤ ((zLN (o0 + 1) : Nat) : Int) then zlet (zcp σ (o1 + 1) 0 (o0 + 1) 0 v1.toNat) (fun σ2 =>
    if ((0 : Int) ≤ 0 ∧ (0 : Int) ≤ 0 ∧ (0 : Int) ≤ v1) ∧ 0 + v1 ≤ ((zLN (o1 + 2) : Nat) : Int) ∧ 0 + v1 ≤ ((zLN (o0 + 2) : Nat) : Int) then zlet (zcp σ2 (o1 + 2) 0 (o0 + 2) 0 v1.toNat) (fun σ3 =>
      some (0, σ3)) else none) else none
def fL_isLike_2 : Nat → Nat → Nat → Int → Int → Zm → Zr
  | 0, _, _, _, _, _ => none
  | n + 1, o0, o1, x2, x3, σ =>
    zlet (fun (o0 : Nat) (o1 : Nat) (x2 : Int) (x3 : Int) (σ : Zm) => fL_isLike_2 n o0 o1 x2 x3 σ) fun R0 =>
    if x2 ≤ x3 then
      some (1, σ)
    else
    if ((zLN (o0 + 2) : Nat) : Int) ≤ x3 then
      some (1, σ)
    else
    if ((zLN (o1 + 2) : Nat) : Int) ≤ x3 then
      some (1, σ)
    else
    zck x3 (zLN (o0 + 2)) <| zlet (zrd σ (o0 + 2) x3.toNat) fun v1 =>
    zck x3 (zLN (o1 + 2)) <| zlet (zrd σ (o1 + 2) x3.toNat) fun v2 =>
    if ¬ v1 = v2 then
      some (0, σ)
    else
    zck x3 (zLN (o0 + 1)) <| zlet (zrd σ (o0 + 1) x3.toNat) fun v3 =>
    zck x3 (zLN (o1 + 1)) <| zlet (zrd σ (o1 + 1) x3.toNat) fun v4 =>
    if v3 = v4 then
      R0 o0 o1 x2 (zw (x3 + 1)) σ
    else
    some (0, σ)
def fL_isLike (σ : Zm) (o0 : Nat) (o1 : Nat) (x2 : Int) : Zr :=
  fL_isLike_2 5000 o0 o1 x2 0 σ
def fL_takeOverturned_10 : Nat → Nat → Int → Int → Int → Zm → Zr
  | 0, _, _, _, _, _ => none
  | n + 1, o0, x2, x3, x4, σ =>
    zlet (fun (o0 : Nat) (x2 : Int) (x3 : Int) (x4 : Int) (σ : Zm) => fL_takeOverturned_10 n o0 x2 x3 x4 σ) fun R0 =>
    if ((zLN (o0 + 2) : Nat) : Int) ≤ x4 then
      some (zb x3, σ)
    else
    zck x4 (zLN (o0 + 2)) <| zlet (zrd σ (o0 + 2) x4.toNat) fun v2 =>
    if v2 = 0 then
      R0 o0 x2 x3 (zw (x4 + 1)) σ
    else
    zck x4 (zLN (o0 + 1)) <| zlet (zrd σ (o0 + 1) x4.toNat) fun v3 =>
    zck x4 (zLN (o0 + 1)) <| zlet (zst σ (o0 + 1) x4.toNat (x2 - v3)) fun σ4 =>
    if x3 = 0 then
      R0 o0 x2 0 (zw (x4 + 1)) σ4
    else
    zck x4 (zLN (o0 + 1)) <| zlet (zrd σ4 (o0 + 1) x4.toNat) fun v5 =>
    zbi (fX_isPitch σ4 v5) fun v7 σ6 =>
    if v7 = 0 then
      R0 o0 x2 0 (zw (x4 + 1)) σ6
    else
    R0 o0 x2 1 (zw (x4 + 1)) σ6
def fL_takeOverturned (σ : Zm) (o0 : Nat) (o1 : Nat) (x2 : Int) : Zr :=
  zbv (fL_take σ o0 o1) fun σ1 =>
  fL_takeOverturned_10 5000 o0 x2 1 0 σ1
def fL_takeForm_143 (R0 : Nat → Nat → Int → Int → Int → Int → Int → Int → Zm → Zr) (K168 : Nat → Nat → Int → Int → Int → Int → Int → Zm → Zr) (o0 : Nat) (o1 : Nat) (x3 : Int) (x4 : Int) (x5 : Int) (x6 : Int) (x7 : Int) (x8 : Int) (x9 : Int) (σ : Zm) : Zr :=
  zck x7 (zLN (o1 + 1)) <| zlet (zrd σ (o1 + 1) x7.toNat) fun v10 =>
  zck x9 (zLN (o0 + 1)) <| zlet (zst σ (o0 + 1) x9.toNat (x3 + (x5 * v10))) fun σ11 =>
  R0 o0 o1 x3 x4 x5 x6 x7 (zw (x8 + 1)) σ11
def fL_takeForm_84 : Nat → Nat → Nat → Int → Int → Int → Int → Int → Int → Zm → (Nat → Nat → Int → Int → Int → Int → Int → Zm → Zr) → Zr
  | 0, _, _, _, _, _, _, _, _, _, _ => none
  | n + 1, o0, o1, x3, x4, x5, x6, x7, x8, σ, K168 =>
    zlet (fun (o0 : Nat) (o1 : Nat) (x3 : Int) (x4 : Int) (x5 : Int) (x6 : Int) (x7 : Int) (x8 : Int) (σ : Zm) => fL_takeForm_84 n o0 o1 x3 x4 x5 x6 x7 x8 σ K168) fun R0 =>
    if x6 ≤ x8 then
      K168 o0 o1 x3 x4 x5 x6 x7 σ
    else
    zlet (zw ((x4 + (x6 * x7)) + x8)) fun v6 =>
    zbi (fX_within σ v6 0 (zw (((zLN (o0 + 2) : Nat) : Int) - 1))) fun v8 σ7 =>
    if v8 = 0 then
      R0 o0 o1 x3 x4 x5 x6 x7 (zw (x8 + 1)) σ7
    else
    if ¬ x8 = 0 then
      zck v6 (zLN (o0 + 2)) <| zlet (zst σ7 (o0 + 2) v6.toNat 2) fun σ9 =>
      fL_takeForm_143 R0 K168 o0 o1 x3 x4 x5 x6 x7 x8 v6 σ9
    else
    zck x7 (zLN (o1 + 2)) <| zlet (zrd σ7 (o1 + 2) x7.toNat) fun v12 =>
    zck v6 (zLN (o0 + 2)) <| zlet (zst σ7 (o0 + 2) v6.toNat v12) fun σ13 =>
    fL_takeForm_143 R0 K168 o0 o1 x3 x4 x5 x6 x7 x8 v6 σ13
def fL_takeForm_58 : Nat → Nat → Nat → Int → Int → Int → Int → Int → Zm → Zr
  | 0, _, _, _, _, _, _, _, _ => none
  | n + 1, o0, o1, x3, x4, x5, x6, x7, σ =>
    zlet (fun (o0 : Nat) (o1 : Nat) (x3 : Int) (x4 : Int) (x5 : Int) (x6 : Int) (x7 : Int) (σ : Zm) => fL_takeForm_58 n o0 o1 x3 x4 x5 x6 x7 σ) fun R0 =>
    if ((zLN (o1 + 2) : Nat) : Int) ≤ x7 then
      some (0, σ)
    else
    zck x7 (zLN (o1 + 2)) <| zlet (zrd σ (o1 + 2) x7.toNat) fun v5 =>
    if ¬ v5 = 0 then
      fL_takeForm_84 5000 o0 o1 x3 x4 x5 x6 x7 0 σ fun o15 o16 y17 y18 y19 y20 y21 σ14 =>
      R0 o15 o16 y17 y18 y19 y20 (zw (y21 + 1)) σ14
    else
    R0 o0 o1 x3 x4 x5 x6 (zw (x7 + 1)) σ
def fL_takeForm_38 (o0 : Nat) (o1 : Nat) (x2 : Int) (x3 : Int) (x4 : Int) (x5 : Int) (σ : Zm) : Zr :=
  zlet (zw (1 + (Int.tdiv x2 450))) fun v3 =>
  zbv (fJ7_fill_53178 σ (o0 + 2) 0) fun σ4 =>
  fL_takeForm_58 5000 o0 o1 x3 x4 x5 v3 0 σ4
def fL_takeForm (σ : Zm) (o0 : Nat) (o1 : Nat) (x2 : Int) : Zr :=
  zlet (zw ((30 + (Int.tmod x2 25)) - 12)) fun v1 =>
  zlet (zw (Int.tmod (zw (Int.tdiv x2 25)) 9)) fun v2 =>
  if ¬ zw (Int.tmod (zw (Int.tdiv x2 225)) 2) = 1 then
    fL_takeForm_38 o0 o1 x2 v1 v2 1 σ
  else
  fL_takeForm_38 o0 o1 x2 v1 v2 (-1) σ
def fU_emit (σ : Zm) (o0 : Nat) (x1 : Int) : Zr :=
  zlet (zrd σ o0 6) fun v1 =>
  if 300 ≤ v1 then
    some (0, σ)
  else
  zlet (zrd σ o0 6) fun v2 =>
  zck v2 300 <| zlet (zst σ (o0 + 1) v2.toNat x1) fun σ3 =>
  zlet (zrd σ3 o0 6) fun v4 =>
  zlet (zst σ3 o0 6 (v4 + 1)) fun σ5 =>
  some (0, σ5)
def fU_open (σ : Zm) (o0 : Nat) (x1 : Int) : Zr :=
  zlet (zrd σ o0 5) fun v1 =>
  if 10 ≤ v1 then
    some (0, σ)
  else
  zlet (zrd σ o0 5) fun v2 =>
  zck v2 10 <| zlet (zst σ (o0 + 2) v2.toNat x1) fun σ3 =>
  zlet (zrd σ3 o0 5) fun v4 =>
  zlet (zrd σ3 o0 6) fun v5 =>
  zck v4 10 <| zlet (zst σ3 (o0 + 3) v4.toNat v5) fun σ6 =>
  zlet (zrd σ6 o0 5) fun v7 =>
  zlet (zrd σ6 o0 6) fun v8 =>
  zck v7 10 <| zlet (zst σ6 (o0 + 4) v7.toNat v8) fun σ9 =>
  some (0, σ9)
def fU_beginCondition (σ : Zm) (o0 : Nat) : Zr :=
  zlet (zrd σ o0 5) fun v1 =>
  if 10 ≤ v1 then
    some (0, σ)
  else
  zlet (zrd σ o0 5) fun v2 =>
  zlet (zrd σ o0 6) fun v3 =>
  zck v2 10 <| zlet (zst σ (o0 + 4) v2.toNat v3) fun σ4 =>
  some (0, σ4)
def fU_close (σ : Zm) (o0 : Nat) : Zr :=
  zlet (zrd σ o0 5) fun v1 =>
  if 10 ≤ v1 then
    some (0, σ)
  else
  zlet (zrd σ o0 5) fun v2 =>
  zlet (zrd σ o0 6) fun v3 =>
  zck v2 10 <| zlet (zst σ (o0 + 5) v2.toNat v3) fun σ4 =>
  zlet (zrd σ4 o0 5) fun v5 =>
  zlet (zst σ4 o0 5 (v5 + 1)) fun σ6 =>
  some (0, σ6)
def fU_has_2 : Nat → Nat → Int → Int → Zm → Zr
  | 0, _, _, _, _ => none
  | n + 1, o0, x1, x2, σ =>
    zlet (fun (o0 : Nat) (x1 : Int) (x2 : Int) (σ : Zm) => fU_has_2 n o0 x1 x2 σ) fun R0 =>
    zlet (zrd σ o0 5) fun v1 =>
    if v1 ≤ x2 then
      some (0, σ)
    else
    zck x2 10 <| zlet (zrd σ (o0 + 2) x2.toNat) fun v2 =>
    if ¬ v2 = x1 then
      R0 o0 x1 (zw (x2 + 1)) σ
    else
    some (1, σ)
def fU_has (σ : Zm) (o0 : Nat) (x1 : Int) : Zr :=
  fU_has_2 5000 o0 x1 0 σ
def fJ_begin (σ : Zm) (o0 : Nat) (x1 : Int) (x2 : Int) : Zr :=
  zlet (max 1 x1) fun v1 =>
  zlet (zst σ o0 3 v1) fun σ2 =>
  zlet (zst σ2 o0 4 x2) fun σ3 =>
  zlet (zst σ3 o0 5 0) fun σ4 =>
  zlet (zst σ4 o0 6 0) fun σ5 =>
  some (0, σ5)
def fJ_combine (σ : Zm) (x0 : Int) (x1 : Int) (x3 : Int) : Zr :=
  if x0 = 1 then
    some (zlor x1 x3, σ)
  else
  if x0 = 2 then
    some (zland x1 x3, σ)
  else
  if x0 = 4 then
    if 0 ≤ zlc x1 x3 then
      some (0, σ)
    else
    some (1, σ)
  else
  if x0 = 5 then
    if 0 < zlc x1 x3 then
      some (0, σ)
    else
    some (1, σ)
  else
  if x0 = 6 then
    if zlc x1 x3 ≤ 0 then
      some (0, σ)
    else
    some (1, σ)
  else
  if x0 = 7 then
    if zlc x1 x3 < 0 then
      some (0, σ)
    else
    some (1, σ)
  else
  if x0 = 8 then
    if ¬ zlc x1 x3 = 0 then
      some (0, σ)
    else
    some (1, σ)
  else
  if x0 = 9 then
    if zlc x1 x3 = 0 then
      some (0, σ)
    else
    some (1, σ)
  else
  if x0 = 10 then
    some (x1 + x3, σ)
  else
  if x0 = 11 then
    some (x1 - x3, σ)
  else
  if x0 = 12 then
    some (x1 * x3, σ)
  else
  if ¬ zlc x3 0 = 0 then
    zdv x3 <|
    some (Int.tdiv x1 x3, σ)
  else
  some (0, σ)
def fJ_value_127 (R0 : Nat → Nat → Int → Int → Int → Zm → Zr) (K259 : Nat → Int → Zm → Zr) (o0 : Nat) (o1 : Nat) (x3 : Int) (x4 : Int) (x5 : Int) (x7 : Int) (σ : Zm) : Zr :=
  if 1 ≤ x4 then
    if ¬ x7 = 3 then
      zck (zw (x4 - 1)) 300 <| zlet (zrd σ (o0 + 2) (zw (x4 - 1)).toNat) fun v4 =>
      zck (zw (x4 - 1)) 300 <| zlet (zst σ (o0 + 2) (zw (x4 - 1)).toNat (-v4)) fun σ5 =>
      R0 o0 o1 x3 x4 (zw (x5 + 1)) σ5
    else
    zck (zw (x4 - 1)) 300 <| zlet (zrd σ (o0 + 2) (zw (x4 - 1)).toNat) fun v6 =>
    zck (zw (x4 - 1)) 300 <| zlet (zst σ (o0 + 2) (zw (x4 - 1)).toNat (1 - v6)) fun σ7 =>
    R0 o0 o1 x3 x4 (zw (x5 + 1)) σ7
  else
  some (0, σ)
def fJ_value_10 : Nat → Nat → Nat → Int → Int → Int → Zm → (Nat → Int → Zm → Zr) → Zr
  | 0, _, _, _, _, _, _, _ => none
  | n + 1, o0, o1, x3, x4, x5, σ, K259 =>
    zlet (fun (o0 : Nat) (o1 : Nat) (x3 : Int) (x4 : Int) (x5 : Int) (σ : Zm) => fJ_value_10 n o0 o1 x3 x4 x5 σ K259) fun R0 =>
    if x3 ≤ x5 then
      K259 o0 x4 σ
    else
    if ((zLN o1 : Nat) : Int) ≤ x5 then
      K259 o0 x4 σ
    else
    if 300 ≤ x4 then
      K259 o0 x4 σ
    else
    zck x5 (zLN o1) <| zlet (zrd σ o1 x5.toNat) fun v2 =>
    zlet (zw (v2 - 2000)) fun v3 =>
    if 1000 ≤ v2 then
      if 0 ≤ v3 then
        if v3 = 3 then
          fJ_value_127 R0 K259 o0 o1 x3 x4 x5 v3 σ
        else
        if ¬ v3 = 14 then
          if 2 ≤ x4 then
            zck (zw ((x4 + (-1)) - 1)) 300 <| zlet (zrd σ (o0 + 2) (zw ((x4 + (-1)) - 1)).toNat) fun v8 =>
            zck (zw (x4 + (-1))) 300 <| zlet (zrd σ (o0 + 2) (zw (x4 + (-1))).toNat) fun v9 =>
            zbl (fJ_combine σ v3 v8 v9) fun v11 σ10 =>
            if zlc v11 1000000 ≤ 0 then
              if 0 ≤ zlc v11 (-1000000) then
                zck (zw ((x4 + (-1)) - 1)) 300 <| zlet (zst σ10 (o0 + 2) (zw ((x4 + (-1)) - 1)).toNat v11) fun σ12 =>
                R0 o0 o1 x3 (zw (x4 + (-1))) (zw (x5 + 1)) σ12
              else
              zck (zw ((x4 + (-1)) - 1)) 300 <| zlet (zst σ10 (o0 + 2) (zw ((x4 + (-1)) - 1)).toNat (-1000000)) fun σ13 =>
              R0 o0 o1 x3 (zw (x4 + (-1))) (zw (x5 + 1)) σ13
            else
            zck (zw ((x4 + (-1)) - 1)) 300 <| zlet (zst σ10 (o0 + 2) (zw ((x4 + (-1)) - 1)).toNat 1000000) fun σ14 =>
            R0 o0 o1 x3 (zw (x4 + (-1))) (zw (x5 + 1)) σ14
          else
          some (0, σ)
        else
        fJ_value_127 R0 K259 o0 o1 x3 x4 x5 v3 σ
      else
      zlet (zw (v2 - 1000)) fun v15 =>
      if 21 ≤ v15 then
        zck x4 300 <| zlet (zst σ (o0 + 2) x4.toNat 0) fun σ16 =>
        R0 o0 o1 x3 (zw (x4 + 1)) (zw (x5 + 1)) σ16
      else
      zck v15 21 <| zlet (zrd σ (o0 + 1) v15.toNat) fun v17 =>
      zck x4 300 <| zlet (zst σ (o0 + 2) x4.toNat v17) fun σ18 =>
      R0 o0 o1 x3 (zw (x4 + 1)) (zw (x5 + 1)) σ18
    else
    zck x4 300 <| zlet (zst σ (o0 + 2) x4.toNat v2) fun σ19 =>
    R0 o0 o1 x3 (zw (x4 + 1)) (zw (x5 + 1)) σ19
def fJ_value_259 (o0 : Nat) (x4 : Int) (σ : Zm) : Zr :=
  if x4 ≤ 0 then
    some (0, σ)
  else
  zck (zw (x4 - 1)) 300 <| zlet (zrd σ (o0 + 2) (zw (x4 - 1)).toNat) fun v23 =>
  some (v23, σ)
def fJ_value (σ : Zm) (o0 : Nat) (o1 : Nat) (x2 : Int) (x3 : Int) : Zr :=
  zlet (max 0 x2) fun v1 =>
  fJ_value_10 5000 o0 o1 x3 0 v1 σ fun o21 y22 σ20 =>
  fJ_value_259 o21 y22 σ20
def fJ_askClauses_143 (R0 : Nat → Nat → Int → Int → Int → Zm → Zr) (o0 : Nat) (o1 : Nat) (x2 : Int) (x3 : Int) (x4 : Int) (x5 : Int) (σ : Zm) : Zr :=
  zlet (zrd σ o0 5) fun v15 =>
  zlet (zst σ o0 5 (v15 + 1)) fun σ16 =>
  zlet (zrd σ16 o0 6) fun v17 =>
  zlet (zst σ16 o0 6 (v17 + x5)) fun σ18 =>
  R0 o0 o1 x2 x3 (zw (x4 + 1)) σ18
def fJ_askClauses_3 : Nat → Nat → Nat → Int → Int → Int → Zm → Zr
  | 0, _, _, _, _, _, _ => none
  | n + 1, o0, o1, x2, x3, x4, σ =>
    zlet (fun (o0 : Nat) (o1 : Nat) (x2 : Int) (x3 : Int) (x4 : Int) (σ : Zm) => fJ_askClauses_3 n o0 o1 x2 x3 x4 σ) fun R0 =>
    zlet (zrd σ o1 5) fun v1 =>
    if v1 ≤ x4 then
      some (0, σ)
    else
    zck x4 10 <| zlet (zrd σ (o1 + 2) x4.toNat) fun v2 =>
    if ¬ v2 = x2 then
      R0 o0 o1 x2 x3 (zw (x4 + 1)) σ
    else
    zck x4 10 <| zlet (zrd σ (o1 + 4) x4.toNat) fun v3 =>
    zck x4 10 <| zlet (zrd σ (o1 + 5) x4.toNat) fun v4 =>
    zbi (fJ_value σ o0 (o1 + 1) v3 v4) fun v6 σ5 =>
    if ¬ v6 = 0 then
      zck x4 10 <| zlet (zrd σ5 (o1 + 3) x4.toNat) fun v7 =>
      zck x4 10 <| zlet (zrd σ5 (o1 + 4) x4.toNat) fun v8 =>
      zbi (fJ_value σ5 o0 (o1 + 1) v7 v8) fun v10 σ9 =>
      zlet (min 999 v10) fun v11 =>
      zlet (max 0 v11) fun v12 =>
      zlet (zrd σ9 o0 5) fun v13 =>
      zlet (zrd σ9 o0 4) fun v14 =>
      if ¬ v13 = v14 then
        fJ_askClauses_143 R0 o0 o1 x2 x3 x4 v12 σ9
      else
      zck 0 5 <| zlet (zst σ9 (o0 + 3) 0 x3) fun σ19 =>
      zlet (zrd σ19 o0 7) fun v20 =>
      zck 1 5 <| zlet (zst σ19 (o0 + 3) 1 v20) fun σ21 =>
      zlet (zrd σ21 o0 8) fun v22 =>
      zck 2 5 <| zlet (zst σ21 (o0 + 3) 2 v22) fun σ23 =>
      zck 3 5 <| zlet (zst σ23 (o0 + 3) 3 x4) fun σ24 =>
      zck 4 5 <| zlet (zst σ24 (o0 + 3) 4 v12) fun σ25 =>
      fJ_askClauses_143 R0 o0 o1 x2 x3 x4 v12 σ25
    else
    R0 o0 o1 x2 x3 (zw (x4 + 1)) σ5
def fJ_askClauses (σ : Zm) (o0 : Nat) (o1 : Nat) (x2 : Int) (x3 : Int) : Zr :=
  fJ_askClauses_3 5000 o0 o1 x2 x3 0 σ
def fJ_askPair_280 (o0 : Nat) (o1 : Nat) (x4 : Int) (σ : Zm) : Zr :=
  zlet (zrd σ o0 3) fun v24 =>
  zdv v24 <|
  zck 8 21 <| zlet (zst σ (o0 + 1) 8 (Int.tmod x4 v24)) fun σ25 =>
  zbv (fJ_askClauses σ25 o0 o1 0 x4) fun σ26 =>
  some (0, σ26)
def fJ_askPair_258 (o0 : Nat) (o1 : Nat) (x4 : Int) (x7 : Int) (x8 : Int) (σ : Zm) : Zr :=
  if ¬ x7 = 0 then
    zck 7 21 <| zlet (zst σ (o0 + 1) 7 0) fun σ23 =>
    fJ_askPair_280 o0 o1 x4 σ23
  else
  if x8 = 0 then
    zck 7 21 <| zlet (zst σ (o0 + 1) 7 1) fun σ27 =>
    fJ_askPair_280 o0 o1 x4 σ27
  else
  zck 7 21 <| zlet (zst σ (o0 + 1) 7 0) fun σ28 =>
  fJ_askPair_280 o0 o1 x4 σ28
def fJ_askPair_213 (o0 : Nat) (o1 : Nat) (x4 : Int) (x5 : Int) (x6 : Int) (x7 : Int) (x8 : Int) (σ : Zm) : Zr :=
  zlet (min x5 x6) fun v18 =>
  zck 4 21 <| zlet (zst σ (o0 + 1) 4 v18) fun σ19 =>
  zlet (max x5 x6) fun v20 =>
  zck 5 21 <| zlet (zst σ19 (o0 + 1) 5 v20) fun σ21 =>
  if x6 ≤ x5 then
    zck 6 21 <| zlet (zst σ21 (o0 + 1) 6 0) fun σ22 =>
    fJ_askPair_258 o0 o1 x4 x7 x8 σ22
  else
  zck 6 21 <| zlet (zst σ21 (o0 + 1) 6 1) fun σ29 =>
  fJ_askPair_258 o0 o1 x4 x7 x8 σ29
def fJ_askPair_181 (o0 : Nat) (o1 : Nat) (o3 : Nat) (x4 : Int) (x5 : Int) (x6 : Int) (x7 : Int) (x8 : Int) (x10 : Int) (σ : Zm) : Zr :=
  if x8 = 0 then
    zck 3 21 <| zlet (zst σ (o0 + 1) 3 0) fun σ17 =>
    fJ_askPair_213 o0 o1 x4 x5 x6 x7 x8 σ17
  else
  if x10 = 0 then
    zck 3 21 <| zlet (zst σ (o0 + 1) 3 0) fun σ30 =>
    fJ_askPair_213 o0 o1 x4 x5 x6 x7 x8 σ30
  else
  zck (zw (x4 - 1)) (zLN (o3 + 1)) <| zlet (zrd σ (o3 + 1) (zw (x4 - 1)).toNat) fun v31 =>
  zck 3 21 <| zlet (zst σ (o0 + 1) 3 (x6 - v31)) fun σ32 =>
  fJ_askPair_213 o0 o1 x4 x5 x6 x7 x8 σ32
def fJ_askPair_149 (o0 : Nat) (o1 : Nat) (o2 : Nat) (o3 : Nat) (x4 : Int) (x5 : Int) (x6 : Int) (x7 : Int) (x8 : Int) (x9 : Int) (x10 : Int) (σ : Zm) : Zr :=
  if x7 = 0 then
    zck 2 21 <| zlet (zst σ (o0 + 1) 2 0) fun σ16 =>
    fJ_askPair_181 o0 o1 o3 x4 x5 x6 x7 x8 x10 σ16
  else
  if x9 = 0 then
    zck 2 21 <| zlet (zst σ (o0 + 1) 2 0) fun σ33 =>
    fJ_askPair_181 o0 o1 o3 x4 x5 x6 x7 x8 x10 σ33
  else
  zck (zw (x4 - 1)) (zLN (o2 + 1)) <| zlet (zrd σ (o2 + 1) (zw (x4 - 1)).toNat) fun v34 =>
  zck 2 21 <| zlet (zst σ (o0 + 1) 2 (x5 - v34)) fun σ35 =>
  fJ_askPair_181 o0 o1 o3 x4 x5 x6 x7 x8 x10 σ35
def fJ_askPair_73 (o0 : Nat) (o1 : Nat) (o2 : Nat) (o3 : Nat) (x4 : Int) (x5 : Int) (x6 : Int) (x7 : Int) (x8 : Int) (σ : Zm) : Zr :=
  zbi (fL_sounds σ o2 (zw (x4 - 1))) fun v10 σ9 =>
  zbi (fL_sounds σ9 o3 (zw (x4 - 1))) fun v12 σ11 =>
  zlet (zabs (zw (x5 - x6))) fun v13 =>
  zck 0 21 <| zlet (zst σ11 (o0 + 1) 0 v13) fun σ14 =>
  if v10 = 0 then
    zck 1 21 <| zlet (zst σ14 (o0 + 1) 1 (-1)) fun σ15 =>
    fJ_askPair_149 o0 o1 o2 o3 x4 x5 x6 x7 x8 v10 v12 σ15
  else
  if v12 = 0 then
    zck 1 21 <| zlet (zst σ14 (o0 + 1) 1 (-1)) fun σ36 =>
    fJ_askPair_149 o0 o1 o2 o3 x4 x5 x6 x7 x8 v10 v12 σ36
  else
  zck (zw (x4 - 1)) (zLN (o2 + 1)) <| zlet (zrd σ14 (o2 + 1) (zw (x4 - 1)).toNat) fun v37 =>
  zck (zw (x4 - 1)) (zLN (o3 + 1)) <| zlet (zrd σ14 (o3 + 1) (zw (x4 - 1)).toNat) fun v38 =>
  zlet (zabs (zw (v37 - v38))) fun v39 =>
  zck 1 21 <| zlet (zst σ14 (o0 + 1) 1 v39) fun σ40 =>
  fJ_askPair_149 o0 o1 o2 o3 x4 x5 x6 x7 x8 v10 v12 σ40
def fJ_askPair_55 (o0 : Nat) (o1 : Nat) (o2 : Nat) (o3 : Nat) (x4 : Int) (x5 : Int) (x6 : Int) (x7 : Int) (σ : Zm) : Zr :=
  zck x4 (zLN (o3 + 2)) <| zlet (zrd σ (o3 + 2) x4.toNat) fun v8 =>
  if ¬ v8 = 1 then
    fJ_askPair_73 o0 o1 o2 o3 x4 x5 x6 x7 0 σ
  else
  fJ_askPair_73 o0 o1 o2 o3 x4 x5 x6 x7 1 σ
def fJ_askPair (σ : Zm) (o0 : Nat) (o1 : Nat) (o2 : Nat) (o3 : Nat) (x4 : Int) : Zr :=
  zbi (fL_sounds σ o2 x4) fun v2 σ1 =>
  if v2 = 0 then
    some (0, σ1)
  else
  zbi (fL_sounds σ1 o3 x4) fun v4 σ3 =>
  if ¬ v4 = 0 then
    zck x4 (zLN (o2 + 1)) <| zlet (zrd σ3 (o2 + 1) x4.toNat) fun v5 =>
    zck x4 (zLN (o3 + 1)) <| zlet (zrd σ3 (o3 + 1) x4.toNat) fun v6 =>
    zck x4 (zLN (o2 + 2)) <| zlet (zrd σ3 (o2 + 2) x4.toNat) fun v7 =>
    if ¬ v7 = 1 then
      fJ_askPair_55 o0 o1 o2 o3 x4 v5 v6 0 σ3
    else
    fJ_askPair_55 o0 o1 o2 o3 x4 v5 v6 1 σ3
  else
  some (0, σ3)
def fJ_askLine_91 (o0 : Nat) (o1 : Nat) (o2 : Nat) (x3 : Int) (σ : Zm) : Zr :=
  zck x3 (zLN (o2 + 1)) <| zlet (zrd σ (o2 + 1) x3.toNat) fun v14 =>
  zck 11 21 <| zlet (zst σ (o0 + 1) 11 v14) fun σ15 =>
  zbi (fL_restsAhead σ15 o2 x3) fun v17 σ16 =>
  zck 12 21 <| zlet (zst σ16 (o0 + 1) 12 v17) fun σ18 =>
  zlet (zrd σ18 o0 3) fun v19 =>
  zdv v19 <|
  zck 8 21 <| zlet (zst σ18 (o0 + 1) 8 (Int.tmod x3 v19)) fun σ20 =>
  zbv (fJ_askClauses σ20 o0 o1 1 x3) fun σ21 =>
  some (0, σ21)
def fJ_askLine (σ : Zm) (o0 : Nat) (o1 : Nat) (o2 : Nat) (x3 : Int) : Zr :=
  zbi (fL_noteAhead σ o2 x3) fun v2 σ1 =>
  zbi (fL_sounds σ1 o2 x3) fun v4 σ3 =>
  if v4 = 0 then
    some (0, σ3)
  else
  zck x3 (zLN (o2 + 2)) <| zlet (zrd σ3 (o2 + 2) x3.toNat) fun v5 =>
  if ¬ v5 = 1 then
    some (0, σ3)
  else
  if 0 ≤ v2 then
    zbi (fL_noteAhead σ3 o2 v2) fun v7 σ6 =>
    zck x3 (zLN (o2 + 1)) <| zlet (zrd σ6 (o2 + 1) x3.toNat) fun v8 =>
    zck v2 (zLN (o2 + 1)) <| zlet (zrd σ6 (o2 + 1) v2.toNat) fun v9 =>
    zck 9 21 <| zlet (zst σ6 (o0 + 1) 9 (v8 - v9)) fun σ10 =>
    if 0 ≤ v7 then
      zck v2 (zLN (o2 + 1)) <| zlet (zrd σ10 (o2 + 1) v2.toNat) fun v11 =>
      zck v7 (zLN (o2 + 1)) <| zlet (zrd σ10 (o2 + 1) v7.toNat) fun v12 =>
      zck 10 21 <| zlet (zst σ10 (o0 + 1) 10 (v11 - v12)) fun σ13 =>
      fJ_askLine_91 o0 o1 o2 x3 σ13
    else
    zck 10 21 <| zlet (zst σ10 (o0 + 1) 10 0) fun σ22 =>
    fJ_askLine_91 o0 o1 o2 x3 σ22
  else
  some (0, σ3)
def fJ_askPiece_58 : Nat → Nat → Nat → Nat → Int → Int → Int → Int → Int → Int → Zm → (Nat → Nat → Nat → Int → Int → Int → Int → Int → Zm → Zr) → Zr
  | 0, _, _, _, _, _, _, _, _, _, _, _ => none
  | n + 1, o0, o1, o2, x3, x5, x6, x7, x8, x9, σ, K101 =>
    zlet (fun (o0 : Nat) (o1 : Nat) (o2 : Nat) (x3 : Int) (x5 : Int) (x6 : Int) (x7 : Int) (x8 : Int) (x9 : Int) (σ : Zm) => fJ_askPiece_58 n o0 o1 o2 x3 x5 x6 x7 x8 x9 σ K101) fun R0 =>
    if 4 ≤ x9 then
      K101 o0 o1 o2 x3 x5 x6 x7 x8 σ
    else
    zlet (zst σ o0 7 x8) fun σ6 =>
    zlet (zst σ6 o0 8 x9) fun σ7 =>
    zck (zw (x3 + x8)) (zLN o2) <|
    zck (zw (x3 + x9)) (zLN o2) <|
    zbv (fJ_askPair σ7 o0 o1 (zRF o2 (zw (x3 + x8)).toNat) (zRF o2 (zw (x3 + x9)).toNat) x7) fun σ10 =>
    R0 o0 o1 o2 x3 x5 x6 x7 x8 (zw (x9 + 1)) σ10
def fJ_askPiece_41 : Nat → Nat → Nat → Nat → Int → Int → Int → Int → Int → Zm → (Nat → Nat → Nat → Int → Int → Int → Int → Zm → Zr) → Zr
  | 0, _, _, _, _, _, _, _, _, _, _ => none
  | n + 1, o0, o1, o2, x3, x5, x6, x7, x8, σ, K107 =>
    zlet (fun (o0 : Nat) (o1 : Nat) (o2 : Nat) (x3 : Int) (x5 : Int) (x6 : Int) (x7 : Int) (x8 : Int) (σ : Zm) => fJ_askPiece_41 n o0 o1 o2 x3 x5 x6 x7 x8 σ K107) fun R0 =>
    if x5 = 0 then
      K107 o0 o1 o2 x3 x5 x6 x7 σ
    else
    if 4 ≤ x8 then
      K107 o0 o1 o2 x3 x5 x6 x7 σ
    else
    zlet (zw (x8 + 1)) fun v5 =>
    fJ_askPiece_58 5000 o0 o1 o2 x3 x5 x6 x7 x8 v5 σ fun o12 o13 o14 y15 y16 y17 y18 y19 σ11 =>
    R0 o12 o13 o14 y15 y16 y17 y18 (zw (y19 + 1)) σ11
def fJ_askPiece_110 : Nat → Nat → Nat → Nat → Int → Int → Int → Int → Int → Zm → (Nat → Nat → Nat → Int → Int → Int → Int → Zm → Zr) → Zr
  | 0, _, _, _, _, _, _, _, _, _, _ => none
  | n + 1, o0, o1, o2, x3, x5, x6, x7, x8, σ, K151 =>
    zlet (fun (o0 : Nat) (o1 : Nat) (o2 : Nat) (x3 : Int) (x5 : Int) (x6 : Int) (x7 : Int) (x8 : Int) (σ : Zm) => fJ_askPiece_110 n o0 o1 o2 x3 x5 x6 x7 x8 σ K151) fun R0 =>
    if x6 = 0 then
      K151 o0 o1 o2 x3 x5 x6 x7 σ
    else
    if 4 ≤ x8 then
      K151 o0 o1 o2 x3 x5 x6 x7 σ
    else
    zlet (zst σ o0 7 x8) fun σ28 =>
    zlet (zst σ28 o0 8 (-1)) fun σ29 =>
    zck (zw (x3 + x8)) (zLN o2) <|
    zbv (fJ_askLine σ29 o0 o1 (zRF o2 (zw (x3 + x8)).toNat) x7) fun σ31 =>
    R0 o0 o1 o2 x3 x5 x6 x7 (zw (x8 + 1)) σ31
def fJ_askPiece_31 : Nat → Nat → Nat → Nat → Int → Int → Int → Int → Zm → Zr
  | 0, _, _, _, _, _, _, _, _ => none
  | n + 1, o0, o1, o2, x3, x5, x6, x7, σ =>
    zlet (fun (o0 : Nat) (o1 : Nat) (o2 : Nat) (x3 : Int) (x5 : Int) (x6 : Int) (x7 : Int) (σ : Zm) => fJ_askPiece_31 n o0 o1 o2 x3 x5 x6 x7 σ) fun R0 =>
    if 32 ≤ x7 then
      some (0, σ)
    else
    fJ_askPiece_41 5000 o0 o1 o2 x3 x5 x6 x7 0 σ fun o21 o22 o23 y24 y25 y26 y27 σ20 =>
    fJ_askPiece_110 5000 o21 o22 o23 y24 y25 y26 y27 0 σ20 fun o33 o34 o35 y36 y37 y38 y39 σ32 =>
    R0 o33 o34 o35 y36 y37 y38 (zw (y39 + 1)) σ32
def fJ_askPiece (σ : Zm) (o0 : Nat) (o1 : Nat) (o2 : Nat) (x3 : Int) (x4 : Int) : Zr :=
  if x3 < 0 then
    some (0, σ)
  else
  if zw (x3 + 4) ≤ ((zLN o2 : Nat) : Int) then
    zbi (fU_has σ o1 0) fun v2 σ1 =>
    zbi (fU_has σ1 o1 1) fun v4 σ3 =>
    fJ_askPiece_31 5000 o0 o1 o2 x3 v2 v4 x4 σ3
  else
  some (0, σ)
def fJ_askPairs_28 : Nat → Nat → Nat → Nat → Nat → Int → Int → Int → Zm → Zr
  | 0, _, _, _, _, _, _, _, _ => none
  | n + 1, o0, o1, o2, o3, x4, x5, x6, σ =>
    zlet (fun (o0 : Nat) (o1 : Nat) (o2 : Nat) (o3 : Nat) (x4 : Int) (x5 : Int) (x6 : Int) (σ : Zm) => fJ_askPairs_28 n o0 o1 o2 o3 x4 x5 x6 σ) fun R0 =>
    if x5 ≤ x6 then
      some (0, σ)
    else
    zlet (zrd σ o0 6) fun v3 =>
    if x4 < v3 then
      some (0, σ)
    else
    zbv (fJ_askPair σ o0 o1 o2 o3 x6) fun σ4 =>
    R0 o0 o1 o2 o3 x4 x5 (zw (x6 + 1)) σ4
def fJ_askPairs (σ : Zm) (o0 : Nat) (o1 : Nat) (o2 : Nat) (o3 : Nat) (x4 : Int) : Zr :=
  zbi (fU_has σ o1 0) fun v2 σ1 =>
  if v2 = 0 then
    fJ_askPairs_28 5000 o0 o1 o2 o3 x4 0 0 σ1
  else
  zbi (fL_beats σ1 o2) fun v6 σ5 =>
  zbi (fL_beats σ5 o3) fun v8 σ7 =>
  zlet (min v6 v8) fun v9 =>
  fJ_askPairs_28 5000 o0 o1 o2 o3 x4 v9 0 σ7
def fJ_askLines_21 : Nat → Nat → Nat → Nat → Int → Int → Int → Zm → Zr
  | 0, _, _, _, _, _, _, _ => none
  | n + 1, o0, o1, o2, x3, x4, x5, σ =>
    zlet (fun (o0 : Nat) (o1 : Nat) (o2 : Nat) (x3 : Int) (x4 : Int) (x5 : Int) (σ : Zm) => fJ_askLines_21 n o0 o1 o2 x3 x4 x5 σ) fun R0 =>
    if x4 ≤ x5 then
      some (0, σ)
    else
    zlet (zrd σ o0 6) fun v3 =>
    if x3 < v3 then
      some (0, σ)
    else
    zbv (fJ_askLine σ o0 o1 o2 x5) fun σ4 =>
    R0 o0 o1 o2 x3 x4 (zw (x5 + 1)) σ4
def fJ_askLines (σ : Zm) (o0 : Nat) (o1 : Nat) (o2 : Nat) (x3 : Int) : Zr :=
  zbi (fU_has σ o1 1) fun v2 σ1 =>
  if v2 = 0 then
    fJ_askLines_21 5000 o0 o1 o2 x3 0 0 σ1
  else
  zbi (fL_beats σ1 o2) fun v6 σ5 =>
  fJ_askLines_21 5000 o0 o1 o2 x3 v6 0 σ5
def fJ_asksAny_5 : Nat → Nat → Nat → Int → Int → Int → Zm → Zr
  | 0, _, _, _, _, _, _ => none
  | n + 1, o0, o1, x2, x3, x4, σ =>
    zlet (fun (o0 : Nat) (o1 : Nat) (x2 : Int) (x3 : Int) (x4 : Int) (σ : Zm) => fJ_asksAny_5 n o0 o1 x2 x3 x4 σ) fun R0 =>
    zlet (zrd σ o1 5) fun v1 =>
    if v1 ≤ x4 then
      some (zb x3, σ)
    else
    if ¬ x3 = 0 then
      some (zb x3, σ)
    else
    zck x4 10 <| zlet (zrd σ (o1 + 2) x4.toNat) fun v2 =>
    if ¬ v2 = x2 then
      R0 o0 o1 x2 0 (zw (x4 + 1)) σ
    else
    zck x4 10 <| zlet (zrd σ (o1 + 4) x4.toNat) fun v3 =>
    zck x4 10 <| zlet (zrd σ (o1 + 5) x4.toNat) fun v4 =>
    zbi (fJ_value σ o0 (o1 + 1) v3 v4) fun v6 σ5 =>
    if v6 = 0 then
      R0 o0 o1 x2 0 (zw (x4 + 1)) σ5
    else
    R0 o0 o1 x2 1 (zw (x4 + 1)) σ5
def fJ_asksAny (σ : Zm) (o0 : Nat) (o1 : Nat) (x2 : Int) : Zr :=
  fJ_asksAny_5 5000 o0 o1 x2 0 0 σ
def fJ_setPages_3 : Nat → Nat → Nat → Int → Int → Int → Zm → Zr
  | 0, _, _, _, _, _, _ => none
  | n + 1, o0, o1, x2, x3, x4, σ =>
    zlet (fun (o0 : Nat) (o1 : Nat) (x2 : Int) (x3 : Int) (x4 : Int) (σ : Zm) => fJ_setPages_3 n o0 o1 x2 x3 x4 σ) fun R0 =>
    if 4 ≤ x4 then
      some (0, σ)
    else
    zlet (zw ((x2 * 4) + x4)) fun v1 =>
    zlet (zw ((x3 * 4) + x4)) fun v2 =>
    zbi (fX_within σ v1 0 (zw (((zLN o1 : Nat) : Int) - 1))) fun v4 σ3 =>
    if v4 = 0 then
      R0 o0 o1 x2 x3 (zw (x4 + 1)) σ3
    else
    zbi (fX_within σ3 v2 0 (zw (((zLN o1 : Nat) : Int) - 1))) fun v6 σ5 =>
    if v6 = 0 then
      R0 o0 o1 x2 x3 (zw (x4 + 1)) σ5
    else
    zck v1 (zLN o1) <| zlet (zrd σ5 o1 v1.toNat) fun v7 =>
    zck (zw (13 + x4)) 21 <| zlet (zst σ5 (o0 + 1) (zw (13 + x4)).toNat v7) fun σ8 =>
    zck v2 (zLN o1) <| zlet (zrd σ8 o1 v2.toNat) fun v9 =>
    zck (zw (17 + x4)) 21 <| zlet (zst σ8 (o0 + 1) (zw (17 + x4)).toNat v9) fun σ10 =>
    R0 o0 o1 x2 x3 (zw (x4 + 1)) σ10
def fJ_setPages (σ : Zm) (o0 : Nat) (o1 : Nat) (x2 : Int) (x3 : Int) : Zr :=
  fJ_setPages_3 5000 o0 o1 x2 x3 0 σ
def fS_take_2 : Nat → Nat → Nat → Int → Zm → (Nat → Nat → Zm → Zr) → Zr
  | 0, _, _, _, _, _ => none
  | n + 1, o0, o1, x2, σ, K32 =>
    zlet (fun (o0 : Nat) (o1 : Nat) (x2 : Int) (σ : Zm) => fS_take_2 n o0 o1 x2 σ K32) fun R0 =>
    if 16 ≤ x2 then
      K32 o0 o1 σ
    else
    zck x2 16 <|
    zck x2 16 <|
    zbv (fL_take σ (zRF (o0 + 1) x2.toNat) (zRF (o1 + 1) x2.toNat)) fun σ3 =>
    R0 o0 o1 (zw (x2 + 1)) σ3
def fS_take_34 : Nat → Nat → Nat → Int → Zm → (Nat → Nat → Zm → Zr) → Zr
  | 0, _, _, _, _, _ => none
  | n + 1, o0, o1, x2, σ, K64 =>
    zlet (fun (o0 : Nat) (o1 : Nat) (x2 : Int) (σ : Zm) => fS_take_34 n o0 o1 x2 σ K64) fun R0 =>
    if 6 ≤ x2 then
      K64 o0 o1 σ
    else
    zck x2 6 <|
    zck x2 6 <|
    zbv (fL_take σ (zRF (o0 + 2) x2.toNat) (zRF (o1 + 2) x2.toNat)) fun σ9 =>
    R0 o0 o1 (zw (x2 + 1)) σ9
def fS_take (σ : Zm) (o0 : Nat) (o1 : Nat) : Zr :=
  fS_take_2 5000 o0 o1 0 σ fun o5 o6 σ4 =>
  fS_take_34 5000 o5 o6 0 σ4 fun o11 o12 σ10 =>
  if ((0 : Int) ≤ 0 ∧ (0 : Int) ≤ 0 ∧ (0 : Int) ≤ 4) ∧ 0 + 4 ≤ ((4 : Nat) : Int) ∧ 0 + 4 ≤ ((4 : Nat) : Int) then zlet (zcp σ10 (o12 + 3) 0 (o11 + 3) 0 4) (fun σ13 =>
    if ((0 : Int) ≤ 0 ∧ (0 : Int) ≤ 0 ∧ (0 : Int) ≤ 6) ∧ 0 + 6 ≤ ((6 : Nat) : Int) ∧ 0 + 6 ≤ ((6 : Nat) : Int) then zlet (zcp σ13 (o12 + 4) 0 (o11 + 4) 0 6) (fun σ14 =>
      if ((0 : Int) ≤ 0 ∧ (0 : Int) ≤ 0 ∧ (0 : Int) ≤ 10) ∧ 0 + 10 ≤ ((10 : Nat) : Int) ∧ 0 + 10 ≤ ((10 : Nat) : Int) then zlet (zcp σ14 (o12 + 5) 0 (o11 + 5) 0 10) (fun σ15 =>
        if ((0 : Int) ≤ 0 ∧ (0 : Int) ≤ 0 ∧ (0 : Int) ≤ 10) ∧ 0 + 10 ≤ ((10 : Nat) : Int) ∧ 0 + 10 ≤ ((10 : Nat) : Int) then zlet (zcp σ15 (o12 + 6) 0 (o11 + 6) 0 10) (fun σ16 =>
          if ((0 : Int) ≤ 0 ∧ (0 : Int) ≤ 0 ∧ (0 : Int) ≤ 32) ∧ 0 + 32 ≤ ((32 : Nat) : Int) ∧ 0 + 32 ≤ ((32 : Nat) : Int) then zlet (zcp σ16 (o12 + 7) 0 (o11 + 7) 0 32) (fun σ17 =>
            zlet (zrd σ17 o12 7) fun v18 =>
            zlet (zst σ17 o11 7 v18) fun σ19 =>
            zlet (zrd σ19 o12 8) fun v20 =>
            zlet (zst σ19 o11 8 v20) fun σ21 =>
            zlet (zrd σ21 o12 9) fun v22 =>
            zlet (zst σ21 o11 9 v22) fun σ23 =>
            zlet (zrd σ23 o12 10) fun v24 =>
            zlet (zst σ23 o11 10 v24) fun σ25 =>
            some (0, σ25)) else none) else none) else none) else none) else none
def fS_lengthOf_4 : Nat → Nat → Int → Int → Int → Zm → Zr
  | 0, _, _, _, _, _ => none
  | n + 1, o0, x1, x2, x3, σ =>
    zlet (fun (o0 : Nat) (x1 : Int) (x2 : Int) (x3 : Int) (σ : Zm) => fS_lengthOf_4 n o0 x1 x2 x3 σ) fun R0 =>
    if 4 ≤ x3 then
      some (x2, σ)
    else
    zck (zw ((x1 * 4) + x3)) 16 <|
    zbi (fL_beats σ (zRF (o0 + 1) (zw ((x1 * 4) + x3)).toNat)) fun v3 σ2 =>
    zlet (max x2 v3) fun v4 =>
    R0 o0 x1 v4 (zw (x3 + 1)) σ2
def fS_lengthOf (σ : Zm) (o0 : Nat) (x1 : Int) : Zr :=
  fS_lengthOf_4 5000 o0 x1 0 0 σ
def fS_piecesOf_4 : Nat → Nat → Int → Int → Int → Zm → Zr
  | 0, _, _, _, _, _ => none
  | n + 1, o0, x1, x2, x3, σ =>
    zlet (fun (o0 : Nat) (x1 : Int) (x2 : Int) (x3 : Int) (σ : Zm) => fS_piecesOf_4 n o0 x1 x2 x3 σ) fun R0 =>
    if 4 ≤ x3 then
      some (x2, σ)
    else
    zck x3 4 <| zlet (zrd σ (o0 + 3) x3.toNat) fun v1 =>
    if ¬ v1 = x1 then
      R0 o0 x1 x2 (zw (x3 + 1)) σ
    else
    R0 o0 x1 (zor x2 (zshl 1 x3)) (zw (x3 + 1)) σ
def fS_piecesOf (σ : Zm) (o0 : Nat) (x1 : Int) : Zr :=
  fS_piecesOf_4 5000 o0 x1 0 0 σ
def fT_clear (σ : Zm) (o0 : Nat) : Zr :=
  zbv (fJ7_fill_53178 σ (o0 + 1) 0) fun σ1 =>
  zbv (fJ7_fill_53178 σ1 (o0 + 2) 0) fun σ2 =>
  zlet (zst σ2 o0 2 0) fun σ3 =>
  zlet (zst σ3 o0 3 0) fun σ4 =>
  some (0, σ4)
def fT_add_9 : Nat → Nat → Nat → Int → Int → Int → Int → Zm → Zr
  | 0, _, _, _, _, _, _, _ => none
  | n + 1, o0, o1, x2, x3, x4, x5, σ =>
    zlet (fun (o0 : Nat) (o1 : Nat) (x2 : Int) (x3 : Int) (x4 : Int) (x5 : Int) (σ : Zm) => fT_add_9 n o0 o1 x2 x3 x4 x5 σ) fun R0 =>
    if ((zLN (o1 + 2) : Nat) : Int) ≤ x5 then
      some (0, σ)
    else
    zck x5 (zLN (o1 + 2)) <| zlet (zrd σ (o1 + 2) x5.toNat) fun v1 =>
    if v1 = 1 then
      if x4 < 0 then
        R0 o0 o1 x2 x3 x5 (zw (x5 + 1)) σ
      else
      zck x5 (zLN (o1 + 1)) <| zlet (zrd σ (o1 + 1) x5.toNat) fun v2 =>
      zck x4 (zLN (o1 + 1)) <| zlet (zrd σ (o1 + 1) x4.toNat) fun v3 =>
      zbi (fX_boundedStep σ (zw (v2 - v3))) fun v5 σ4 =>
      zck (zw (v5 + 12)) 25 <| zlet (zrd σ4 (o0 + 1) (zw (v5 + 12)).toNat) fun v6 =>
      zck (zw (v5 + 12)) 25 <| zlet (zst σ4 (o0 + 1) (zw (v5 + 12)).toNat (v6 + 1)) fun σ7 =>
      zlet (zrd σ7 o0 2) fun v8 =>
      zlet (zst σ7 o0 2 (v8 + 1)) fun σ9 =>
      if ¬ x3 = x2 then
        R0 o0 o1 x2 v5 x5 (zw (x5 + 1)) σ9
      else
      zck (zw (v5 + 12)) 25 <| zlet (zrd σ9 (o0 + 2) (zw (v5 + 12)).toNat) fun v10 =>
      zck (zw (v5 + 12)) 25 <| zlet (zst σ9 (o0 + 2) (zw (v5 + 12)).toNat (v10 + 1)) fun σ11 =>
      zlet (zrd σ11 o0 3) fun v12 =>
      zlet (zst σ11 o0 3 (v12 + 1)) fun σ13 =>
      R0 o0 o1 x2 v5 x5 (zw (x5 + 1)) σ13
    else
    R0 o0 o1 x2 x3 x4 (zw (x5 + 1)) σ
def fT_add (σ : Zm) (o0 : Nat) (o1 : Nat) (x2 : Int) : Zr :=
  fT_add_9 5000 o0 o1 x2 100 (-1) 0 σ
def fT_strangeBy_4 : Nat → Nat → Nat → Int → Int → Zm → (Nat → Nat → Int → Zm → Zr) → Zr
  | 0, _, _, _, _, _, _ => none
  | n + 1, o0, o1, x2, x3, σ, K27 =>
    zlet (fun (o0 : Nat) (o1 : Nat) (x2 : Int) (x3 : Int) (σ : Zm) => fT_strangeBy_4 n o0 o1 x2 x3 σ K27) fun R0 =>
    if 25 ≤ x3 then
      K27 o0 o1 x2 σ
    else
    zck x3 25 <| zlet (zrd σ (o1 + 1) x3.toNat) fun v1 =>
    zlet (max x2 v1) fun v2 =>
    R0 o0 o1 v2 (zw (x3 + 1)) σ
def fT_strangeBy_47 : Nat → Nat → Nat → Int → Int → Int → Zm → Zr
  | 0, _, _, _, _, _, _ => none
  | n + 1, o0, o1, x2, x3, x4, σ =>
    zlet (fun (o0 : Nat) (o1 : Nat) (x2 : Int) (x3 : Int) (x4 : Int) (σ : Zm) => fT_strangeBy_47 n o0 o1 x2 x3 x4 σ) fun R0 =>
    if 25 ≤ x4 then
      zlet (zrd σ o0 2) fun v8 =>
      zdv v8 <|
      some (Int.tdiv x3 v8, σ)
    else
    zck x4 25 <| zlet (zrd σ (o0 + 1) x4.toNat) fun v9 =>
    zck x4 25 <| zlet (zrd σ (o1 + 1) x4.toNat) fun v10 =>
    zdv x2 <|
    zlet (zw (x3 + (v9 * (1000 - (Int.tdiv (zw (1000 * v10)) x2))))) fun v11 =>
    R0 o0 o1 x2 v11 (zw (x4 + 1)) σ
def fT_strangeBy (σ : Zm) (o0 : Nat) (o1 : Nat) : Zr :=
  fT_strangeBy_4 5000 o0 o1 0 0 σ fun o4 o5 y6 σ3 =>
  zlet (zrd σ3 o4 2) fun v7 =>
  if v7 < 1 then
    some ((-1), σ3)
  else
  if 1 ≤ y6 then
    fT_strangeBy_47 5000 o4 o5 y6 0 0 σ3
  else
  some ((-1), σ3)
def fT_distanceTo_22 : Nat → Nat → Nat → Int → Int → Zm → Zr
  | 0, _, _, _, _, _ => none
  | n + 1, o0, o1, x2, x3, σ =>
    zlet (fun (o0 : Nat) (o1 : Nat) (x2 : Int) (x3 : Int) (σ : Zm) => fT_distanceTo_22 n o0 o1 x2 x3 σ) fun R0 =>
    if 25 ≤ x3 then
      some (x2, σ)
    else
    zck x3 25 <| zlet (zrd σ (o0 + 1) x3.toNat) fun v3 =>
    zlet (zrd σ o0 2) fun v4 =>
    zdv v4 <|
    zck x3 25 <| zlet (zrd σ (o1 + 1) x3.toNat) fun v5 =>
    zlet (zrd σ o1 2) fun v6 =>
    zdv v6 <|
    zlet (zabs (zw ((Int.tdiv (zw (1000 * v3)) v4) - (Int.tdiv (zw (1000 * v5)) v6)))) fun v7 =>
    zlet (zw (x2 + v7)) fun v8 =>
    R0 o0 o1 v8 (zw (x3 + 1)) σ
def fT_distanceTo (σ : Zm) (o0 : Nat) (o1 : Nat) : Zr :=
  zlet (zrd σ o0 2) fun v1 =>
  if v1 < 1 then
    some ((-1), σ)
  else
  zlet (zrd σ o1 2) fun v2 =>
  if 1 ≤ v2 then
    fT_distanceTo_22 5000 o0 o1 0 0 σ
  else
  some ((-1), σ)
def fB_link_99 (R0 : Nat → Nat → Int → Int → Zm → Zr) (K143 : Nat → Nat → Int → Zm → Zr) (o1 : Nat) (o2 : Nat) (x3 : Int) (x4 : Int) (σ : Zm) : Zr :=
  zbi (fJ_asksAny σ 211 o1 3) fun v9 σ8 =>
  if v9 = 0 then
    R0 o1 o2 x3 (zw (x4 + 1)) σ8
  else
  zck x3 8 <| zlet (zrd σ8 216 x3.toNat) fun v10 =>
  zck x3 8 <| zlet (zst σ8 216 x3.toNat (zor v10 (zshl 1 x4))) fun σ11 =>
  zck x4 8 <| zlet (zrd σ11 216 x4.toNat) fun v12 =>
  zck x4 8 <| zlet (zst σ11 216 x4.toNat (zor v12 (zshl 1 x3))) fun σ13 =>
  R0 o1 o2 x3 (zw (x4 + 1)) σ13
def fB_link_35 : Nat → Nat → Nat → Int → Int → Zm → (Nat → Nat → Int → Zm → Zr) → Zr
  | 0, _, _, _, _, _, _ => none
  | n + 1, o1, o2, x3, x4, σ, K143 =>
    zlet (fun (o1 : Nat) (o2 : Nat) (x3 : Int) (x4 : Int) (σ : Zm) => fB_link_35 n o1 o2 x3 x4 σ K143) fun R0 =>
    zlet (zrd σ o2 10) fun v4 =>
    if v4 ≤ x4 then
      K143 o1 o2 x3 σ
    else
    if 8 ≤ x4 then
      K143 o1 o2 x3 σ
    else
    if ¬ x3 = x4 then
      zbv (fJ_setPages σ 211 (o2 + 7) x3 x4) fun σ5 =>
      zbi (fJ_asksAny σ5 211 o1 2) fun v7 σ6 =>
      if v7 = 0 then
        fB_link_99 R0 K143 o1 o2 x3 x4 σ6
      else
      zck x4 8 <| zlet (zrd σ6 215 x4.toNat) fun v14 =>
      zck x4 8 <| zlet (zst σ6 215 x4.toNat (zor v14 (zshl 1 x3))) fun σ15 =>
      fB_link_99 R0 K143 o1 o2 x3 x4 σ15
    else
    R0 o1 o2 x3 (zw (x4 + 1)) σ
def fB_link_18 : Nat → Nat → Nat → Int → Zm → Zr
  | 0, _, _, _, _ => none
  | n + 1, o1, o2, x3, σ =>
    zlet (fun (o1 : Nat) (o2 : Nat) (x3 : Int) (σ : Zm) => fB_link_18 n o1 o2 x3 σ) fun R0 =>
    zlet (zrd σ o2 10) fun v3 =>
    if v3 ≤ x3 then
      some (0, σ)
    else
    if 8 ≤ x3 then
      some (0, σ)
    else
    fB_link_35 5000 o1 o2 x3 0 σ fun o17 o18 y19 σ16 =>
    R0 o17 o18 (zw (y19 + 1)) σ16
def fB_link (σ : Zm) (o1 : Nat) (o2 : Nat) : Zr :=
  zbv (fJ7_fill_53178 σ 215 0) fun σ1 =>
  zbv (fJ7_fill_53178 σ1 216 0) fun σ2 =>
  fB_link_18 5000 o1 o2 0 σ2
def fB_waysTo_27 : Nat → Int → Int → Int → Int → Int → Zm → Zr
  | 0, _, _, _, _, _, _ => none
  | n + 1, x1, x2, x3, x4, x5, σ =>
    zlet (fun (x1 : Int) (x2 : Int) (x3 : Int) (x4 : Int) (x5 : Int) (σ : Zm) => fB_waysTo_27 n x1 x2 x3 x4 x5 σ) fun R0 =>
    if x1 ≤ x5 then
      some (x4, σ)
    else
    if ¬ zand (zshr x2 x5) 1 = 1 then
      R0 x1 x2 x3 x4 (zw (x5 + 1)) σ
    else
    zck x3 8 <| zlet (zrd σ 216 x3.toNat) fun v2 =>
    if ¬ zand (zand v2 x2) (zxor (zshl 1 x5) (-1)) = 0 then
      R0 x1 x2 x3 x4 (zw (x5 + 1)) σ
    else
    zck (zw ((x2 * 8) + x5)) 2048 <| zlet (zrd σ 217 (zw ((x2 * 8) + x5)).toNat) fun v3 =>
    zlet (zw (x4 + v3)) fun v4 =>
    R0 x1 x2 x3 v4 (zw (x5 + 1)) σ
def fB_waysTo (σ : Zm) (x1 : Int) (x2 : Int) (x3 : Int) : Zr :=
  zck x3 8 <| zlet (zrd σ 215 x3.toNat) fun v1 =>
  if zand v1 (zxor x2 (-1)) = 0 then
    if ¬ x2 = 0 then
      fB_waysTo_27 5000 x1 x2 x3 0 0 σ
    else
    some (1, σ)
  else
  some (0, σ)
def fB_count_126 (R0 : Int → Int → Int → Int → Int → Int → Int → Int → Zm → Zr) (K161 : Int → Int → Int → Int → Int → Int → Zm → Zr) (x1 : Int) (x2 : Int) (x3 : Int) (x4 : Int) (x5 : Int) (x6 : Int) (x7 : Int) (x8 : Int) (σ : Zm) : Zr :=
  if ¬ x6 = x4 then
    zlet (zw (x5 + 0)) fun v7 =>
    R0 x1 x2 x3 x4 v7 x6 x7 (zw (x8 + 1)) σ
  else
  zck (zw ((x6 * 8) + x8)) 2048 <| zlet (zrd σ 217 (zw ((x6 * 8) + x8)).toNat) fun v8 =>
  zlet (zw (x5 + v8)) fun v9 =>
  R0 x1 x2 x3 x4 v9 x6 x7 (zw (x8 + 1)) σ
def fB_count_88 (R0 : Int → Int → Int → Int → Int → Int → Int → Int → Zm → Zr) (K161 : Int → Int → Int → Int → Int → Int → Zm → Zr) (x1 : Int) (x2 : Int) (x3 : Int) (x4 : Int) (x5 : Int) (x6 : Int) (x7 : Int) (x8 : Int) (x9 : Int) (σ : Zm) : Zr :=
  if x9 = 0 then
    zck (zw ((x6 * 8) + x8)) 2048 <| zlet (zst σ 217 (zw ((x6 * 8) + x8)).toNat 0) fun σ6 =>
    fB_count_126 R0 K161 x1 x2 x3 x4 x5 x6 x7 x8 σ6
  else
  zbi (fB_waysTo σ x1 (zand x6 (zxor (zshl 1 x8) (-1))) x8) fun v11 σ10 =>
  zck (zw ((x6 * 8) + x8)) 2048 <| zlet (zst σ10 217 (zw ((x6 * 8) + x8)).toNat v11) fun σ12 =>
  fB_count_126 R0 K161 x1 x2 x3 x4 x5 x6 x7 x8 σ12
def fB_count_85 (R0 : Int → Int → Int → Int → Int → Int → Int → Int → Zm → Zr) (K161 : Int → Int → Int → Int → Int → Int → Zm → Zr) (x1 : Int) (x2 : Int) (x3 : Int) (x4 : Int) (x5 : Int) (x6 : Int) (x7 : Int) (x8 : Int) (σ : Zm) : Zr :=
  fB_count_88 R0 K161 x1 x2 x3 x4 x5 x6 x7 x8 0 σ
def fB_count_81 (R0 : Int → Int → Int → Int → Int → Int → Int → Int → Zm → Zr) (K161 : Int → Int → Int → Int → Int → Int → Zm → Zr) (x1 : Int) (x2 : Int) (x3 : Int) (x4 : Int) (x5 : Int) (x6 : Int) (x7 : Int) (x8 : Int) (σ : Zm) : Zr :=
  fB_count_88 R0 K161 x1 x2 x3 x4 x5 x6 x7 x8 1 σ
def fB_count_53 : Nat → Int → Int → Int → Int → Int → Int → Int → Int → Zm → (Int → Int → Int → Int → Int → Int → Zm → Zr) → Zr
  | 0, _, _, _, _, _, _, _, _, _, _ => none
  | n + 1, x1, x2, x3, x4, x5, x6, x7, x8, σ, K161 =>
    zlet (fun (x1 : Int) (x2 : Int) (x3 : Int) (x4 : Int) (x5 : Int) (x6 : Int) (x7 : Int) (x8 : Int) (σ : Zm) => fB_count_53 n x1 x2 x3 x4 x5 x6 x7 x8 σ K161) fun R0 =>
    if x1 ≤ x8 then
      K161 x1 x2 x3 x4 x5 x6 σ
    else
    if ¬ zand (zshr x6 x8) 1 = 1 then
      fB_count_85 R0 K161 x1 x2 x3 x4 x5 x6 x7 x8 σ
    else
    if x7 = 0 then
      fB_count_81 R0 K161 x1 x2 x3 x4 x5 x6 x7 x8 σ
    else
    if ¬ x8 = x2 then
      fB_count_85 R0 K161 x1 x2 x3 x4 x5 x6 x7 x8 σ
    else
    fB_count_81 R0 K161 x1 x2 x3 x4 x5 x6 x7 x8 σ
def fB_count_25 : Nat → Int → Int → Int → Int → Int → Int → Zm → Zr
  | 0, _, _, _, _, _, _, _ => none
  | n + 1, x1, x2, x3, x4, x5, x6, σ =>
    zlet (fun (x1 : Int) (x2 : Int) (x3 : Int) (x4 : Int) (x5 : Int) (x6 : Int) (σ : Zm) => fB_count_25 n x1 x2 x3 x4 x5 x6 σ) fun R0 =>
    if x4 < x6 then
      some (x5, σ)
    else
    zbi (fJ6_bitCount_0f7a4 σ x6) fun v5 σ4 =>
    if ¬ zw (v5 - 1) = x3 then
      fB_count_53 5000 x1 x2 x3 x4 x5 x6 0 0 σ4 fun y14 y15 y16 y17 y18 y19 σ13 =>
      R0 y14 y15 y16 y17 y18 (zw (y19 + 1)) σ13
    else
    fB_count_53 5000 x1 x2 x3 x4 x5 x6 1 0 σ4 fun y21 y22 y23 y24 y25 y26 σ20 =>
    R0 y21 y22 y23 y24 y25 (zw (y26 + 1)) σ20
def fB_count (σ : Zm) (x1 : Int) (x2 : Int) (x3 : Int) : Zr :=
  zbi (fX_within σ x1 1 8) fun v2 σ1 =>
  if ¬ v2 = 0 then
    zlet (zw ((zshl 1 x1) - 1)) fun v3 =>
    fB_count_25 5000 x1 x2 x3 v3 0 1 σ1
  else
  some (1, σ1)
def fF_begin (σ : Zm) (o1 : Nat) (x2 : Int) (o3 : Nat) : Zr :=
  zbv (fL_takeForm σ 162 o3 12) fun σ1 =>
  zbv (fJ_begin σ1 158 x2 (-1)) fun σ2 =>
  zbv (fJ_askLines σ2 158 o1 162 2147483647) fun σ3 =>
  zlet (zrd σ3 158 6) fun v4 =>
  zlet (zst σ3 157 8 v4) fun σ5 =>
  some (0, σ5)
def fF_priceOf (σ : Zm) (o1 : Nat) (o2 : Nat) (x3 : Int) (x4 : Int) : Zr :=
  zbv (fL_takeForm σ 165 o2 x3) fun σ1 =>
  zlet (zrd σ1 157 8) fun v2 =>
  zlet (zst σ1 158 6 v2) fun σ3 =>
  zbv (fJ_askLines σ3 158 o1 165 x4) fun σ4 =>
  zbv (fJ_askPairs σ4 158 o1 162 165 x4) fun σ5 =>
  zlet (zrd σ5 158 6) fun v6 =>
  some (v6, σ5)
def fF_findCheapest_14 : Nat → Nat → Nat → Int → Int → Zm → Zr
  | 0, _, _, _, _, _ => none
  | n + 1, o1, o2, x3, x4, σ =>
    zlet (fun (o1 : Nat) (o2 : Nat) (x3 : Int) (x4 : Int) (σ : Zm) => fF_findCheapest_14 n o1 o2 x3 x4 σ) fun R0 =>
    if 900 ≤ x4 then
      some (0, σ)
    else
    zlet (zrd σ 157 9) fun v3 =>
    zlet (max 0 x3) fun v4 =>
    if v3 ≤ v4 then
      some (0, σ)
    else
    zlet (zrd σ 157 9) fun v5 =>
    zbi (fF_priceOf σ o1 o2 x4 (zw (v5 - 1))) fun v7 σ6 =>
    zlet (zrd σ6 157 9) fun v8 =>
    if v8 ≤ v7 then
      R0 o1 o2 x3 (zw (x4 + 1)) σ6
    else
    zlet (zst σ6 157 9 v7) fun σ9 =>
    zlet (zst σ9 157 10 x4) fun σ10 =>
    R0 o1 o2 x3 (zw (x4 + 1)) σ10
def fF_findCheapest (σ : Zm) (o1 : Nat) (o2 : Nat) (x3 : Int) : Zr :=
  zlet (zst σ 157 9 2147483647) fun σ1 =>
  zlet (zst σ1 157 10 0) fun σ2 =>
  fF_findCheapest_14 5000 o1 o2 x3 0 σ2
def fF_findThree_3 : Nat → Nat → Nat → Nat → Int → Zm → (Nat → Nat → Nat → Zm → Zr) → Zr
  | 0, _, _, _, _, _, _ => none
  | n + 1, o1, o2, o3, x4, σ, K61 =>
    zlet (fun (o1 : Nat) (o2 : Nat) (o3 : Nat) (x4 : Int) (σ : Zm) => fF_findThree_3 n o1 o2 o3 x4 σ K61) fun R0 =>
    if 88 ≤ x4 then
      K61 o1 o2 o3 σ
    else
    zbi (fX_formOfThree σ x4) fun v2 σ1 =>
    zbi (fF_priceOf σ1 o1 o2 v2 2147483647) fun v4 σ3 =>
    zck x4 88 <| zlet (zst σ3 175 x4.toNat v4) fun σ5 =>
    zbi (fX_formOfThree σ5 x4) fun v7 σ6 =>
    zbi (fF_priceOf σ6 o1 o3 v7 2147483647) fun v9 σ8 =>
    zlet (zrd σ8 157 8) fun v10 =>
    zck x4 88 <| zlet (zst σ8 176 x4.toNat (v9 - v10)) fun σ11 =>
    R0 o1 o2 o3 (zw (x4 + 1)) σ11
def fF_findThree_93 : Nat → Nat → Nat → Nat → Int → Int → Zm → (Nat → Nat → Nat → Int → Zm → Zr) → Zr
  | 0, _, _, _, _, _, _, _ => none
  | n + 1, o1, o2, o3, x4, x5, σ, K222 =>
    zlet (fun (o1 : Nat) (o2 : Nat) (o3 : Nat) (x4 : Int) (x5 : Int) (σ : Zm) => fF_findThree_93 n o1 o2 o3 x4 x5 σ K222) fun R0 =>
    if 88 ≤ x5 then
      K222 o1 o2 o3 x4 σ
    else
    zck x4 88 <| zlet (zrd σ 175 x4.toNat) fun v20 =>
    zck x5 88 <| zlet (zrd σ 176 x5.toNat) fun v21 =>
    zlet (zw (v20 + v21)) fun v22 =>
    zlet (zrd σ 157 9) fun v23 =>
    if v22 < v23 then
      zbi (fX_formOfThree σ x5) fun v25 σ24 =>
      zbv (fL_takeForm σ24 168 o3 v25) fun σ26 =>
      zlet (zst σ26 158 6 v22) fun σ27 =>
      zlet (zrd σ27 157 9) fun v28 =>
      zbv (fJ_askPairs σ27 158 o1 165 168 (zw (v28 - 1))) fun σ29 =>
      zlet (zrd σ29 158 6) fun v30 =>
      zlet (zrd σ29 157 9) fun v31 =>
      if v31 ≤ v30 then
        R0 o1 o2 o3 x4 (zw (x5 + 1)) σ29
      else
      zlet (zrd σ29 158 6) fun v32 =>
      zlet (zst σ29 157 9 v32) fun σ33 =>
      zbi (fX_formOfThree σ33 x4) fun v35 σ34 =>
      zlet (zst σ34 157 10 v35) fun σ36 =>
      zbi (fX_formOfThree σ36 x5) fun v38 σ37 =>
      zlet (zst σ37 157 11 v38) fun σ39 =>
      R0 o1 o2 o3 x4 (zw (x5 + 1)) σ39
    else
    R0 o1 o2 o3 x4 (zw (x5 + 1)) σ
def fF_findThree_70 : Nat → Nat → Nat → Nat → Int → Zm → Zr
  | 0, _, _, _, _, _ => none
  | n + 1, o1, o2, o3, x4, σ =>
    zlet (fun (o1 : Nat) (o2 : Nat) (o3 : Nat) (x4 : Int) (σ : Zm) => fF_findThree_70 n o1 o2 o3 x4 σ) fun R0 =>
    if 88 ≤ x4 then
      some (0, σ)
    else
    zbi (fX_formOfThree σ x4) fun v18 σ17 =>
    zbv (fL_takeForm σ17 165 o2 v18) fun σ19 =>
    fF_findThree_93 5000 o1 o2 o3 x4 0 σ19 fun o41 o42 o43 y44 σ40 =>
    R0 o41 o42 o43 (zw (y44 + 1)) σ40
def fF_findThree (σ : Zm) (o1 : Nat) (o2 : Nat) (o3 : Nat) : Zr :=
  fF_findThree_3 5000 o1 o2 o3 0 σ fun o13 o14 o15 σ12 =>
  zlet (zst σ12 157 9 2147483647) fun σ16 =>
  fF_findThree_70 5000 o13 o14 o15 0 σ16
def fF_singChanges_93 (R0 : Int → Int → Int → Int → Int → Zm → Zr) (x1 : Int) (x2 : Int) (x3 : Int) (x4 : Int) (x5 : Int) (σ : Zm) : Zr :=
  zck x5 12 <| zlet (zrd σ 173 x5.toNat) fun v3 =>
  if v3 = 0 then
    R0 x1 x2 x3 x4 (zw (x5 + 1)) σ
  else
  zck x5 12 <| zlet (zst σ 172 x5.toNat x3) fun σ4 =>
  R0 x1 x2 x3 x4 (zw (x5 + 1)) σ4
def fF_singChanges_53 (R0 : Int → Int → Int → Int → Int → Zm → Zr) (x1 : Int) (x2 : Int) (x3 : Int) (x4 : Int) (x5 : Int) (σ : Zm) : Zr :=
  zck x5 12 <| zlet (zrd σ 173 x5.toNat) fun v2 =>
  if ¬ v2 = 1 then
    fF_singChanges_93 R0 x1 x2 x3 x4 x5 σ
  else
  if x1 ≤ x2 then
    fF_singChanges_93 R0 x1 x2 x3 x4 x5 σ
  else
  if 12 ≤ x2 then
    fF_singChanges_93 R0 x1 x2 x3 x4 x5 σ
  else
  zck x2 12 <| zlet (zrd σ 174 x2.toNat) fun v5 =>
  zlet (zw (x3 + v5)) fun v6 =>
  fF_singChanges_93 R0 x1 (zw (x2 + 1)) v6 x4 x5 σ
def fF_singChanges_10 : Nat → Int → Int → Int → Int → Int → Zm → Zr
  | 0, _, _, _, _, _, _ => none
  | n + 1, x1, x2, x3, x4, x5, σ =>
    zlet (fun (x1 : Int) (x2 : Int) (x3 : Int) (x4 : Int) (x5 : Int) (σ : Zm) => fF_singChanges_10 n x1 x2 x3 x4 x5 σ) fun R0 =>
    if 12 ≤ x5 then
      some (0, σ)
    else
    zck x5 12 <| zlet (zrd σ 173 x5.toNat) fun v1 =>
    if ¬ v1 = 1 then
      fF_singChanges_53 R0 x1 x2 x3 x4 x5 σ
    else
    if ¬ x4 = 0 then
      fF_singChanges_53 R0 x1 x2 x3 x4 x5 σ
    else
    zck x5 12 <| zlet (zrd σ 172 x5.toNat) fun v7 =>
    fF_singChanges_93 R0 x1 x2 v7 1 x5 σ
def fF_singChanges (σ : Zm) (x1 : Int) : Zr :=
  fF_singChanges_10 5000 x1 0 0 0 0 σ
def fF_shuffle_13 : Nat → Nat → Int → Int → Int → Zm → (Int → Int → Zm → Zr) → Zr
  | 0, _, _, _, _, _, _ => none
  | n + 1, o1, x2, x3, x4, σ, K83 =>
    zlet (fun (o1 : Nat) (x2 : Int) (x3 : Int) (x4 : Int) (σ : Zm) => fF_shuffle_13 n o1 x2 x3 x4 σ K83) fun R0 =>
    if 12 ≤ x4 then
      K83 x2 x3 σ
    else
    zbi (fL_noteAhead σ o1 x4) fun v3 σ2 =>
    zck x4 (zLN (o1 + 2)) <| zlet (zrd σ2 (o1 + 2) x4.toNat) fun v4 =>
    if ¬ v4 = 1 then
      R0 o1 x2 x3 (zw (x4 + 1)) σ2
    else
    if v3 < 0 then
      R0 o1 x2 x3 (zw (x4 + 1)) σ2
    else
    if 12 ≤ x3 then
      R0 o1 x2 x3 (zw (x4 + 1)) σ2
    else
    zck x4 (zLN (o1 + 1)) <| zlet (zrd σ2 (o1 + 1) x4.toNat) fun v5 =>
    zck v3 (zLN (o1 + 1)) <| zlet (zrd σ2 (o1 + 1) v3.toNat) fun v6 =>
    zck x3 12 <| zlet (zst σ2 174 x3.toNat (v5 - v6)) fun σ7 =>
    R0 o1 x2 (zw (x3 + 1)) (zw (x4 + 1)) σ7
def fF_shuffle_91 : Nat → Int → Int → Int → Zm → Zr
  | 0, _, _, _, _ => none
  | n + 1, x3, x4, x5, σ =>
    zlet (fun (x3 : Int) (x4 : Int) (x5 : Int) (σ : Zm) => fF_shuffle_91 n x3 x4 x5 σ) fun R0 =>
    if x5 < 1 then
      zbv (fF_singChanges σ x3) fun σ12 =>
      some (0, σ12)
    else
    zbi (fJ9_floorMod_7cf53 σ x4 (zw (x5 + 1))) fun v14 σ13 =>
    zck x5 12 <| zlet (zrd σ13 174 x5.toNat) fun v15 =>
    zck v14 12 <| zlet (zrd σ13 174 v14.toNat) fun v16 =>
    zck x5 12 <| zlet (zst σ13 174 x5.toNat v16) fun σ17 =>
    zck v14 12 <| zlet (zst σ17 174 v14.toNat v15) fun σ18 =>
    zlet (zw (Int.tmod (zw ((x4 * 131) + 17)) 30013)) fun v19 =>
    R0 x3 v19 (zw (x5 + (-1))) σ18
def fF_shuffle (σ : Zm) (o1 : Nat) (x2 : Int) : Zr :=
  zbv (fL_take σ 171 o1) fun σ1 =>
  fF_shuffle_13 5000 o1 x2 0 0 σ1 fun y9 y10 σ8 =>
  zlet (zw (y10 - 1)) fun v11 =>
  fF_shuffle_91 5000 y10 y9 v11 σ8
def fK_begin_3 : Nat → Nat → Int → Int → Int → Int → Zm → (Nat → Int → Int → Zm → Zr) → Zr
  | 0, _, _, _, _, _, _, _ => none
  | n + 1, o1, x2, x3, x4, x5, σ, K36 =>
    zlet (fun (o1 : Nat) (x2 : Int) (x3 : Int) (x4 : Int) (x5 : Int) (σ : Zm) => fK_begin_3 n o1 x2 x3 x4 x5 σ K36) fun R0 =>
    if 4 ≤ x5 then
      K36 o1 x3 x4 σ
    else
    zck x5 4 <|
    zck (zw ((x2 * 4) + x5)) 16 <|
    zbv (fL_take σ (zRF 182 x5.toNat) (zRF (o1 + 1) (zw ((x2 * 4) + x5)).toNat)) fun σ3 =>
    R0 o1 x2 x3 x4 (zw (x5 + 1)) σ3
def fK_begin_96 (o1 : Nat) (x5 : Int) (σ : Zm) : Zr :=
  zlet (max 0 (zw (x5 - 7))) fun v20 =>
  zlet (zst σ 177 8 v20) fun σ21 =>
  zlet (min 60 (zw (x5 + 7))) fun v22 =>
  zlet (zrd σ21 177 8) fun v23 =>
  zlet (zst σ21 177 9 ((v22 - v23) + 1)) fun σ24 =>
  zlet (zrd σ24 o1 7) fun v25 =>
  zbv (fJ_begin σ24 178 v25 (-1)) fun σ26 =>
  some (0, σ26)
def fK_begin (σ : Zm) (o1 : Nat) (x2 : Int) (x3 : Int) (x4 : Int) : Zr :=
  fK_begin_3 5000 o1 x2 x3 x4 0 σ fun o5 y6 y7 σ4 =>
  zlet (zst σ4 177 5 y6) fun σ8 =>
  zlet (zst σ8 177 7 y7) fun σ9 =>
  zlet (zrd σ9 177 5) fun v10 =>
  zck v10 4 <|
  zbi (fL_beats σ9 (zRF 182 v10.toNat)) fun v13 σ12 =>
  zlet (zst σ12 177 6 v13) fun σ14 =>
  zlet (zrd σ14 177 6) fun v15 =>
  if 1 ≤ v15 then
    zlet (zrd σ14 177 5) fun v16 =>
    zck v16 4 <|
    zlet (zrd σ14 177 6) fun v18 =>
    zck (zw (v18 - 1)) (zLN ((zRF 182 v16.toNat) + 1)) <| zlet (zrd σ14 ((zRF 182 v16.toNat) + 1) (zw (v18 - 1)).toNat) fun v19 =>
    fK_begin_96 o5 v19 σ14
  else
  fK_begin_96 o5 0 σ14
def fK_singAt (σ : Zm) (x1 : Int) (x2 : Int) : Zr :=
  if x1 < 0 then
    some (0, σ)
  else
  zlet (zrd σ 177 5) fun v1 =>
  zck v1 4 <|
  zlet (zrd σ 177 6) fun v3 =>
  zlet (zrd σ 177 8) fun v4 =>
  zbv (fL_sing σ (zRF 182 v1.toNat) (zw (v3 + x1)) (zw (v4 + x2)) 1) fun σ5 =>
  some (0, σ5)
def fK_pairPrice_10 : Nat → Nat → Int → Int → Zm → Zr
  | 0, _, _, _, _ => none
  | n + 1, o1, x2, x3, σ =>
    zlet (fun (o1 : Nat) (x2 : Int) (x3 : Int) (σ : Zm) => fK_pairPrice_10 n o1 x2 x3 σ) fun R0 =>
    if 4 ≤ x3 then
      zlet (zrd σ 178 6) fun v2 =>
      some (v2, σ)
    else
    zlet (zrd σ 177 5) fun v3 =>
    if x3 = v3 then
      R0 o1 x2 (zw (x3 + 1)) σ
    else
    zlet (zrd σ 177 5) fun v4 =>
    zlet (min v4 x3) fun v5 =>
    zck v5 4 <|
    zlet (zrd σ 177 5) fun v7 =>
    zlet (max v7 x3) fun v8 =>
    zck v8 4 <|
    zbv (fJ_askPair σ 178 o1 (zRF 182 v5.toNat) (zRF 182 v8.toNat) x2) fun σ10 =>
    R0 o1 x2 (zw (x3 + 1)) σ10
def fK_pairPrice (σ : Zm) (o1 : Nat) (x2 : Int) : Zr :=
  zlet (zst σ 178 6 0) fun σ1 =>
  fK_pairPrice_10 5000 o1 x2 0 σ1
def fK_solveNote_170 (R0 : Nat → Int → Nat → Int → Int → Int → Int → Int → Zm → Zr) (K232 : Nat → Int → Nat → Int → Int → Int → Zm → Zr) (o1 : Nat) (x2 : Int) (o3 : Nat) (x4 : Int) (x5 : Int) (x6 : Int) (x7 : Int) (x8 : Int) (σ : Zm) : Zr :=
  zlet (zw ((x8 * 15) + x5)) fun v19 =>
  zlet (zrd σ 178 6) fun v20 =>
  zck x2 6 <|
  zck v19 225 <| zlet (zrd σ (zRF 183 x2.toNat) v19.toNat) fun v22 =>
  if v22 ≤ v20 then
    R0 o1 x2 o3 x4 x5 x6 x7 (zw (x8 + 1)) σ
  else
  zck x2 6 <|
  zlet (zrd σ 178 6) fun v24 =>
  zck v19 225 <| zlet (zst σ (zRF 183 x2.toNat) v19.toNat v24) fun σ25 =>
  zck x2 6 <|
  zck v19 225 <| zlet (zst σ25 (zRF 190 x2.toNat) v19.toNat x6) fun σ27 =>
  R0 o1 x2 o3 x4 x5 x6 x7 (zw (x8 + 1)) σ27
def fK_solveNote_133 (R0 : Nat → Int → Nat → Int → Int → Int → Int → Int → Zm → Zr) (K232 : Nat → Int → Nat → Int → Int → Int → Zm → Zr) (o1 : Nat) (x2 : Int) (o3 : Nat) (x4 : Int) (x5 : Int) (x6 : Int) (x7 : Int) (x8 : Int) (σ : Zm) : Zr :=
  zbv (fK_singAt σ (zw (x2 - 2)) x8) fun σ15 =>
  zlet (zst σ15 178 6 x7) fun σ16 =>
  zbi (fU_has σ16 o1 1) fun v18 σ17 =>
  if v18 = 0 then
    fK_solveNote_170 R0 K232 o1 x2 o3 x4 x5 x6 x7 x8 σ17
  else
  zbv (fJ_askLine σ17 178 o1 o3 x4) fun σ28 =>
  fK_solveNote_170 R0 K232 o1 x2 o3 x4 x5 x6 x7 x8 σ28
def fK_solveNote_115 : Nat → Nat → Int → Nat → Int → Int → Int → Int → Int → Zm → (Nat → Int → Nat → Int → Int → Int → Zm → Zr) → Zr
  | 0, _, _, _, _, _, _, _, _, _, _ => none
  | n + 1, o1, x2, o3, x4, x5, x6, x7, x8, σ, K232 =>
    zlet (fun (o1 : Nat) (x2 : Int) (o3 : Nat) (x4 : Int) (x5 : Int) (x6 : Int) (x7 : Int) (x8 : Int) (σ : Zm) => fK_solveNote_115 n o1 x2 o3 x4 x5 x6 x7 x8 σ K232) fun R0 =>
    if x2 ≤ 1 then
      if 1 ≤ x8 then
        K232 o1 x2 o3 x4 x5 x6 σ
      else
      fK_solveNote_133 R0 K232 o1 x2 o3 x4 x5 x6 x7 x8 σ
    else
    zlet (zrd σ 177 9) fun v29 =>
    if v29 ≤ x8 then
      K232 o1 x2 o3 x4 x5 x6 σ
    else
    fK_solveNote_133 R0 K232 o1 x2 o3 x4 x5 x6 x7 x8 σ
def fK_solveNote_61 : Nat → Nat → Int → Nat → Int → Int → Int → Zm → (Nat → Int → Nat → Int → Int → Zm → Zr) → Zr
  | 0, _, _, _, _, _, _, _, _ => none
  | n + 1, o1, x2, o3, x4, x5, x6, σ, K238 =>
    zlet (fun (o1 : Nat) (x2 : Int) (o3 : Nat) (x4 : Int) (x5 : Int) (x6 : Int) (σ : Zm) => fK_solveNote_61 n o1 x2 o3 x4 x5 x6 σ K238) fun R0 =>
    zlet (zrd σ 177 9) fun v8 =>
    if v8 ≤ x6 then
      K238 o1 x2 o3 x4 x5 σ
    else
    zbv (fK_singAt σ x2 x6) fun σ9 =>
    zbi (fK_pairPrice σ9 o1 x4) fun v11 σ10 =>
    zck (zw (x2 + 1)) 6 <|
    if x2 ≤ 0 then
      zck (zw ((0 * 15) + x6)) 225 <| zlet (zrd σ10 (zRF 183 (zw (x2 + 1)).toNat) (zw ((0 * 15) + x6)).toNat) fun v13 =>
      zlet (zw (v11 + v13)) fun v14 =>
      fK_solveNote_115 5000 o1 x2 o3 x4 x5 x6 v14 0 σ10 fun o31 y32 o33 y34 y35 y36 σ30 =>
      R0 o31 y32 o33 y34 y35 (zw (y36 + 1)) σ30
    else
    zck (zw ((x5 * 15) + x6)) 225 <| zlet (zrd σ10 (zRF 183 (zw (x2 + 1)).toNat) (zw ((x5 * 15) + x6)).toNat) fun v37 =>
    zlet (zw (v11 + v37)) fun v38 =>
    fK_solveNote_115 5000 o1 x2 o3 x4 x5 x6 v38 0 σ10 fun o40 y41 o42 y43 y44 y45 σ39 =>
    R0 o40 y41 o42 y43 y44 (zw (y45 + 1)) σ39
def fK_solveNote_32 : Nat → Nat → Int → Nat → Int → Int → Zm → Zr
  | 0, _, _, _, _, _, _ => none
  | n + 1, o1, x2, o3, x4, x5, σ =>
    zlet (fun (o1 : Nat) (x2 : Int) (o3 : Nat) (x4 : Int) (x5 : Int) (σ : Zm) => fK_solveNote_32 n o1 x2 o3 x4 x5 σ) fun R0 =>
    if x2 ≤ 0 then
      if 1 ≤ x5 then
        some (0, σ)
      else
      zbv (fK_singAt σ (zw (x2 - 1)) x5) fun σ7 =>
      fK_solveNote_61 5000 o1 x2 o3 x4 x5 0 σ7 fun o47 y48 o49 y50 y51 σ46 =>
      R0 o47 y48 o49 y50 (zw (y51 + 1)) σ46
    else
    zlet (zrd σ 177 9) fun v52 =>
    if v52 ≤ x5 then
      some (0, σ)
    else
    zbv (fK_singAt σ (zw (x2 - 1)) x5) fun σ53 =>
    fK_solveNote_61 5000 o1 x2 o3 x4 x5 0 σ53 fun o55 y56 o57 y58 y59 σ54 =>
    R0 o55 y56 o57 y58 (zw (y59 + 1)) σ54
def fK_solveNote (σ : Zm) (o1 : Nat) (x2 : Int) : Zr :=
  zlet (zrd σ 177 5) fun v1 =>
  zck v1 4 <|
  zlet (zrd σ 177 6) fun v3 =>
  zlet (zw (v3 + x2)) fun v4 =>
  zck x2 6 <|
  zbv (fJ7_fill_53178 σ (zRF 183 x2.toNat) 2147483647) fun σ6 =>
  fK_solveNote_32 5000 o1 x2 (zRF 182 v1.toNat) v4 0 σ6
def fK_solve_20 : Nat → Nat → Int → Zm → (Zm → Zr) → Zr
  | 0, _, _, _, _ => none
  | n + 1, o1, x2, σ, K36 =>
    zlet (fun (o1 : Nat) (x2 : Int) (σ : Zm) => fK_solve_20 n o1 x2 σ K36) fun R0 =>
    if x2 < 0 then
      K36 σ
    else
    zbv (fK_solveNote σ o1 x2) fun σ6 =>
    R0 o1 (zw (x2 + (-1))) σ6
def fK_solve_55 : Nat → Int → Int → Int → Zm → Zr
  | 0, _, _, _, _ => none
  | n + 1, x2, x3, x4, σ =>
    zlet (fun (x2 : Int) (x3 : Int) (x4 : Int) (σ : Zm) => fK_solve_55 n x2 x3 x4 σ) fun R0 =>
    zlet (zrd σ 177 7) fun v11 =>
    if v11 ≤ x4 then
      some (0, σ)
    else
    zck x4 6 <|
    zck (zw ((x2 * 15) + x3)) 225 <| zlet (zrd σ (zRF 190 x4.toNat) (zw ((x2 * 15) + x3)).toNat) fun v13 =>
    zlet (zrd σ 177 8) fun v14 =>
    zck x4 5 <| zlet (zst σ 197 x4.toNat (v14 + v13)) fun σ15 =>
    if x4 ≤ 0 then
      R0 0 v13 (zw (x4 + 1)) σ15
    else
    R0 x3 v13 (zw (x4 + 1)) σ15
def fK_solve (σ : Zm) (o1 : Nat) : Zr :=
  zlet (zrd σ 177 7) fun v1 =>
  zck v1 6 <|
  zbv (fJ7_fill_53178 σ (zRF 183 v1.toNat) 0) fun σ3 =>
  zlet (zrd σ3 177 7) fun v4 =>
  zlet (zw (v4 - 1)) fun v5 =>
  fK_solve_20 5000 o1 v5 σ3 fun σ7 =>
  zck 0 6 <|
  zck 0 225 <| zlet (zrd σ7 (zRF 183 0) 0) fun v9 =>
  zlet (zst σ7 177 10 v9) fun σ10 =>
  fK_solve_55 5000 0 0 0 σ10
def fR_append_3 : Nat → Int → Int → Zm → Zr
  | 0, _, _, _ => none
  | n + 1, x1, x2, σ =>
    zlet (fun (x1 : Int) (x2 : Int) (σ : Zm) => fR_append_3 n x1 x2 σ) fun R0 =>
    if x2 < 0 then
      some (0, σ)
    else
    zlet (zrd σ 150 2) fun v1 =>
    if 300 ≤ v1 then
      some (0, σ)
    else
    zlet (zrd σ 150 2) fun v2 =>
    zck v2 300 <| zlet (zst σ 151 v2.toNat (zand (zushr x1 x2) 255)) fun σ3 =>
    zlet (zrd σ3 150 2) fun v4 =>
    zlet (zst σ3 150 2 (v4 + 1)) fun σ5 =>
    R0 x1 (zw (x2 + (-8))) σ5
def fR_append (σ : Zm) (x1 : Int) : Zr :=
  fR_append_3 5000 x1 24 σ
def fR_isLetter (σ : Zm) (x0 : Int) : Zr :=
  zbi (fX_within σ x0 97 122) fun v2 σ1 =>
  if ¬ v2 = 0 then
    some (1, σ1)
  else
  zbi (fX_within σ1 x0 65 90) fun v4 σ3 =>
  if v4 = 0 then
    some (0, σ3)
  else
  some (1, σ3)
def fR_wordNumber_12 : Nat → Int → Int → Int → Int → Zm → Zr
  | 0, _, _, _, _, _ => none
  | n + 1, x1, x2, x3, x4, σ =>
    zlet (fun (x1 : Int) (x2 : Int) (x3 : Int) (x4 : Int) (σ : Zm) => fR_wordNumber_12 n x1 x2 x3 x4 σ) fun R0 =>
    if 155 ≤ x4 then
      some ((-1), σ)
    else
    zck x4 155 <| zlet (zWc x4.toNat) fun v2 =>
    if ¬ v2 = 32 then
      if x3 = 0 then
        R0 x1 (zw (x2 + 1)) 0 (zw (x4 + 1)) σ
      else
      zlet (zrd σ 150 5) fun v3 =>
      if v3 ≤ x2 then
        R0 x1 (zw (x2 + 1)) 0 (zw (x4 + 1)) σ
      else
      zck x2 300 <| zlet (zrd σ 151 x2.toNat) fun v4 =>
      if ¬ v4 = v2 then
        R0 x1 (zw (x2 + 1)) 0 (zw (x4 + 1)) σ
      else
      R0 x1 (zw (x2 + 1)) 1 (zw (x4 + 1)) σ
    else
    if x3 = 0 then
      zlet (zrd σ 150 6) fun v5 =>
      R0 (zw (x1 + 1)) v5 1 (zw (x4 + 1)) σ
    else
    zlet (zrd σ 150 5) fun v6 =>
    if ¬ x2 = v6 then
      zlet (zrd σ 150 6) fun v7 =>
      R0 (zw (x1 + 1)) v7 1 (zw (x4 + 1)) σ
    else
    some (x1, σ)
def fR_wordNumber (σ : Zm) : Zr :=
  zlet (zrd σ 150 6) fun v1 =>
  fR_wordNumber_12 5000 0 v1 1 0 σ
def fR_scanWord_0 : Nat → Zm → (Zm → Zr) → Zr
  | 0, _, _ => none
  | n + 1, σ, K39 =>
    zlet (fun (σ : Zm) => fR_scanWord_0 n σ K39) fun R0 =>
    zlet (zrd σ 150 5) fun v1 =>
    zlet (zrd σ 150 2) fun v2 =>
    if v2 ≤ v1 then
      K39 σ
    else
    zlet (zrd σ 150 5) fun v3 =>
    zck v3 300 <| zlet (zrd σ 151 v3.toNat) fun v4 =>
    zbi (fR_isLetter σ v4) fun v6 σ5 =>
    if v6 = 0 then
      K39 σ5
    else
    zlet (zrd σ5 150 5) fun v7 =>
    zlet (zst σ5 150 5 (v7 + 1)) fun σ8 =>
    R0 σ8
def fR_scanWord_39 (σ : Zm) : Zr :=
  zbi (fR_wordNumber σ) fun v11 σ10 =>
  if ¬ v11 = (-1) then
    if 4 ≤ v11 then
      if v11 < 8 then
        if ¬ v11 = 4 then
          if ¬ v11 = 5 then
            if ¬ v11 = 6 then
              zlet (zst σ10 150 7 3) fun σ12 =>
              some (0, σ12)
            else
            zlet (zst σ10 150 7 2) fun σ13 =>
            some (0, σ13)
          else
          zlet (zst σ10 150 7 1) fun σ14 =>
          some (0, σ14)
        else
        zlet (zst σ10 150 7 17) fun σ15 =>
        some (0, σ15)
      else
      zlet (zst σ10 150 7 19) fun σ16 =>
      zlet (zst σ16 150 8 (v11 - 8)) fun σ17 =>
      some (0, σ17)
    else
    zlet (zst σ10 150 7 18) fun σ18 =>
    zlet (zst σ18 150 8 v11) fun σ19 =>
    some (0, σ19)
  else
  zlet (zst σ10 150 7 22) fun σ20 =>
  some (0, σ20)
def fR_scanWord (σ : Zm) : Zr :=
  fR_scanWord_0 5000 σ fun σ9 =>
  fR_scanWord_39 σ9
def fR_isDigit (σ : Zm) (x0 : Int) : Zr :=
  zbi (fX_within σ x0 48 57) fun v2 σ1 =>
  some (zb v2, σ1)
def fR_scanDigits_11 : Nat → Zm → Zr
  | 0, _ => none
  | n + 1, σ =>
    zlet (fun (σ : Zm) => fR_scanDigits_11 n σ) fun R0 =>
    zlet (zrd σ 150 5) fun v3 =>
    zlet (zrd σ 150 2) fun v4 =>
    if v4 ≤ v3 then
      some (0, σ)
    else
    zlet (zrd σ 150 5) fun v5 =>
    zck v5 300 <| zlet (zrd σ 151 v5.toNat) fun v6 =>
    zbi (fR_isDigit σ v6) fun v8 σ7 =>
    if v8 = 0 then
      some (0, σ7)
    else
    zlet (zrd σ7 150 8) fun v9 =>
    zlet (zrd σ7 150 5) fun v10 =>
    zck v10 300 <| zlet (zrd σ7 151 v10.toNat) fun v11 =>
    zlet (min 1000 (zw (((v9 * 10) + v11) - 48))) fun v12 =>
    zlet (zst σ7 150 8 v12) fun σ13 =>
    zlet (zrd σ13 150 5) fun v14 =>
    zlet (zst σ13 150 5 (v14 + 1)) fun σ15 =>
    R0 σ15
def fR_scanDigits (σ : Zm) : Zr :=
  zlet (zst σ 150 7 20) fun σ1 =>
  zlet (zst σ1 150 8 0) fun σ2 =>
  fR_scanDigits_11 5000 σ2
def fR_signKind (σ : Zm) (x0 : Int) : Zr :=
  if x0 = 35 then
    some (9, σ)
  else
  if x0 = 40 then
    some (0, σ)
  else
  if x0 = 41 then
    some (15, σ)
  else
  if x0 = 42 then
    some (12, σ)
  else
  if x0 = 43 then
    some (10, σ)
  else
  if x0 = 45 then
    some (11, σ)
  else
  if x0 = 47 then
    some (13, σ)
  else
  if x0 = 59 then
    some (16, σ)
  else
  if x0 = 60 then
    some (4, σ)
  else
  if x0 = 61 then
    some (8, σ)
  else
  if x0 = 62 then
    some (6, σ)
  else
  some (22, σ)
def fR_scanSign_43 (σ : Zm) : Zr :=
  zlet (zrd σ 150 5) fun v9 =>
  zlet (zrd σ 150 2) fun v10 =>
  if v10 ≤ v9 then
    some (0, σ)
  else
  zlet (zrd σ 150 5) fun v11 =>
  zck v11 300 <| zlet (zrd σ 151 v11.toNat) fun v12 =>
  if ¬ v12 = 61 then
    some (0, σ)
  else
  zlet (zrd σ 150 7) fun v13 =>
  if ¬ v13 = 4 then
    zlet (zst σ 150 7 7) fun σ14 =>
    zlet (zrd σ14 150 5) fun v15 =>
    zlet (zst σ14 150 5 (v15 + 1)) fun σ16 =>
    some (0, σ16)
  else
  zlet (zst σ 150 7 5) fun σ17 =>
  zlet (zrd σ17 150 5) fun v18 =>
  zlet (zst σ17 150 5 (v18 + 1)) fun σ19 =>
  some (0, σ19)
def fR_scanSign (σ : Zm) : Zr :=
  zlet (zrd σ 150 5) fun v1 =>
  zck v1 300 <| zlet (zrd σ 151 v1.toNat) fun v2 =>
  zbi (fR_signKind σ v2) fun v4 σ3 =>
  zlet (zst σ3 150 7 v4) fun σ5 =>
  zlet (zrd σ5 150 5) fun v6 =>
  zlet (zst σ5 150 5 (v6 + 1)) fun σ7 =>
  zlet (zrd σ7 150 7) fun v8 =>
  if v8 = 4 then
    fR_scanSign_43 σ7
  else
  zlet (zrd σ7 150 7) fun v20 =>
  if ¬ v20 = 6 then
    some (0, σ7)
  else
  fR_scanSign_43 σ7
def fR_scan_0 : Nat → Zm → (Zm → Zr) → Zr
  | 0, _, _ => none
  | n + 1, σ, K52 =>
    zlet (fun (σ : Zm) => fR_scan_0 n σ K52) fun R0 =>
    zlet (zrd σ 150 5) fun v1 =>
    zlet (zrd σ 150 2) fun v2 =>
    if v2 ≤ v1 then
      K52 σ
    else
    zlet (zrd σ 150 5) fun v3 =>
    zck v3 300 <| zlet (zrd σ 151 v3.toNat) fun v4 =>
    if v4 = 32 then
      zlet (zrd σ 150 5) fun v5 =>
      zlet (zst σ 150 5 (v5 + 1)) fun σ6 =>
      R0 σ6
    else
    zlet (zrd σ 150 5) fun v7 =>
    zck v7 300 <| zlet (zrd σ 151 v7.toNat) fun v8 =>
    if ¬ v8 = 10 then
      K52 σ
    else
    zlet (zrd σ 150 5) fun v9 =>
    zlet (zst σ 150 5 (v9 + 1)) fun σ10 =>
    R0 σ10
def fR_scan_52 (σ : Zm) : Zr :=
  zlet (zrd σ 150 5) fun v12 =>
  zlet (zst σ 150 6 v12) fun σ13 =>
  zlet (zrd σ13 150 5) fun v14 =>
  zlet (zrd σ13 150 2) fun v15 =>
  if v14 < v15 then
    zlet (zrd σ13 150 5) fun v16 =>
    zck v16 300 <| zlet (zrd σ13 151 v16.toNat) fun v17 =>
    zbi (fR_isLetter σ13 v17) fun v19 σ18 =>
    if v19 = 0 then
      zlet (zrd σ18 150 5) fun v20 =>
      zck v20 300 <| zlet (zrd σ18 151 v20.toNat) fun v21 =>
      zbi (fR_isDigit σ18 v21) fun v23 σ22 =>
      if v23 = 0 then
        zbv (fR_scanSign σ22) fun σ24 =>
        some (0, σ24)
      else
      zbv (fR_scanDigits σ22) fun σ25 =>
      some (0, σ25)
    else
    zbv (fR_scanWord σ18) fun σ26 =>
    some (0, σ26)
  else
  zlet (zst σ13 150 7 21) fun σ27 =>
  some (0, σ27)
def fR_scan (σ : Zm) : Zr :=
  fR_scan_0 5000 σ fun σ11 =>
  fR_scan_52 σ11
def fR_refuse (σ : Zm) (x1 : Int) : Zr :=
  zlet (zst σ 150 3 x1) fun σ1 =>
  zlet (zrd σ1 150 6) fun v2 =>
  zlet (zst σ1 150 4 v2) fun σ3 =>
  some (0, σ3)
def fR_takeSort_83 (o1 : Nat) (σ : Zm) : Zr :=
  zlet (zst σ 150 12 0) fun σ8 =>
  zlet (zst σ8 150 13 0) fun σ9 =>
  zlet (zst σ9 150 14 0) fun σ10 =>
  zlet (zst σ10 150 15 0) fun σ11 =>
  zlet (zrd σ11 150 10) fun v12 =>
  zbv (fU_open σ11 o1 v12) fun σ13 =>
  zlet (zrd σ13 150 11) fun v14 =>
  if v14 = 0 then
    zlet (zst σ13 150 9 1) fun σ15 =>
    some (0, σ15)
  else
  zlet (zst σ13 150 9 2) fun σ16 =>
  some (0, σ16)
def fR_takeSort (σ : Zm) (o1 : Nat) : Zr :=
  zlet (zrd σ 150 7) fun v1 =>
  if ¬ v1 = 21 then
    zlet (zrd σ 150 7) fun v2 =>
    if v2 = 18 then
      zlet (zrd σ o1 5) fun v3 =>
      if v3 < 10 then
        zlet (zrd σ 150 8) fun v4 =>
        zlet (zst σ 150 10 v4) fun σ5 =>
        zlet (zrd σ5 150 10) fun v6 =>
        if v6 = 0 then
          zlet (zst σ5 150 11 1) fun σ7 =>
          fR_takeSort_83 o1 σ7
        else
        zlet (zrd σ5 150 10) fun v17 =>
        if ¬ v17 = 1 then
          zlet (zst σ5 150 11 0) fun σ18 =>
          fR_takeSort_83 o1 σ18
        else
        zlet (zst σ5 150 11 1) fun σ19 =>
        fR_takeSort_83 o1 σ19
      else
      zbv (fR_refuse σ 5) fun σ20 =>
      some (0, σ20)
    else
    zbv (fR_refuse σ 1) fun σ21 =>
    some (0, σ21)
  else
  zlet (zst σ 150 9 4) fun σ22 =>
  some (0, σ22)
def fR_takeOperand (σ : Zm) (o1 : Nat) (x2 : Int) : Zr :=
  zbv (fU_emit σ o1 x2) fun σ1 =>
  zlet (zst σ1 150 9 3) fun σ2 =>
  some (0, σ2)
def fR_isNameOfSort (σ : Zm) : Zr :=
  zlet (zrd σ 150 10) fun v1 =>
  if v1 = 0 then
    zlet (zrd σ 150 8) fun v3 =>
    zbi (fX_within σ v3 0 8) fun v5 σ4 =>
    some (zb v5, σ4)
  else
  if v1 = 1 then
    zlet (zrd σ 150 8) fun v7 =>
    zbi (fX_within σ v7 8 12) fun v9 σ8 =>
    some (zb v9, σ8)
  else
  zlet (zrd σ 150 8) fun v10 =>
  zbi (fX_within σ v10 13 20) fun v12 σ11 =>
  some (zb v12, σ11)
def fR_hold (σ : Zm) (x1 : Int) : Zr :=
  zlet (zrd σ 150 13) fun v1 =>
  if 300 ≤ v1 then
    some (0, σ)
  else
  zlet (zrd σ 150 13) fun v2 =>
  zck v2 300 <| zlet (zst σ 152 v2.toNat x1) fun σ3 =>
  zlet (zrd σ3 150 13) fun v4 =>
  zlet (zst σ3 150 13 (v4 + 1)) fun σ5 =>
  some (0, σ5)
def fR_nest (σ : Zm) (x1 : Int) (x2 : Int) : Zr :=
  zlet (zrd σ 150 15) fun v1 =>
  if v1 < 8 then
    zlet (zrd σ 150 15) fun v2 =>
    zlet (zst σ 150 15 (v2 + 1)) fun σ3 =>
    if ¬ x1 = 0 then
      zbv (fR_hold σ3 x1) fun σ4 =>
      zlet (zst σ4 150 9 x2) fun σ5 =>
      some (0, σ5)
    else
    zlet (zrd σ3 150 14) fun v6 =>
    zlet (zst σ3 150 14 (v6 + 1)) fun σ7 =>
    zbv (fR_hold σ7 x1) fun σ8 =>
    zlet (zst σ8 150 9 x2) fun σ9 =>
    some (0, σ9)
  else
  zbv (fR_refuse σ 3) fun σ10 =>
  some (0, σ10)
def fR_takeOne (σ : Zm) (o1 : Nat) : Zr :=
  zlet (zrd σ 150 7) fun v1 =>
  if v1 = 0 then
    zlet (zrd σ 150 7) fun v3 =>
    if ¬ v3 = 11 then
      zbv (fR_nest σ 0 2) fun σ4 =>
      some (0, σ4)
    else
    zbv (fR_nest σ 14 2) fun σ5 =>
    some (0, σ5)
  else
  if v1 = 3 then
    zlet (zrd σ 150 9) fun v7 =>
    if v7 = 1 then
      zbv (fR_nest σ 3 1) fun σ8 =>
      some (0, σ8)
    else
    zbv (fR_refuse σ 1) fun σ9 =>
    some (0, σ9)
  else
  if v1 = 11 then
    zlet (zrd σ 150 7) fun v11 =>
    if ¬ v11 = 11 then
      zbv (fR_nest σ 0 2) fun σ12 =>
      some (0, σ12)
    else
    zbv (fR_nest σ 14 2) fun σ13 =>
    some (0, σ13)
  else
  if v1 = 19 then
    zbi (fR_isNameOfSort σ) fun v16 σ15 =>
    if ¬ v16 = 0 then
      zlet (zrd σ15 150 8) fun v17 =>
      zbv (fR_takeOperand σ15 o1 (zw (1000 + v17))) fun σ18 =>
      some (0, σ18)
    else
    zbv (fR_refuse σ15 4) fun σ19 =>
    some (0, σ19)
  else
  if v1 = 20 then
    zlet (zrd σ 150 8) fun v21 =>
    if v21 ≤ 999 then
      zlet (zrd σ 150 8) fun v22 =>
      zbv (fR_takeOperand σ o1 v22) fun σ23 =>
      some (0, σ23)
    else
    zbv (fR_refuse σ 2) fun σ24 =>
    some (0, σ24)
  else
  zbv (fR_refuse σ 1) fun σ25 =>
  some (0, σ25)
def fR_release_53 (R0 : Nat → Int → Int → Zm → Zr) (o1 : Nat) (x2 : Int) (x3 : Int) (x4 : Int) (σ : Zm) : Zr :=
  zbv (fU_emit σ o1 (zw (2000 + x4))) fun σ7 =>
  zlet (zst σ7 150 13 x3) fun σ8 =>
  R0 o1 x2 (zw (x3 + (-1))) σ8
def fR_release_43 (R0 : Nat → Int → Int → Zm → Zr) (o1 : Nat) (x2 : Int) (x3 : Int) (x4 : Int) (σ : Zm) : Zr :=
  zlet (zrd σ 150 15) fun v5 =>
  zlet (zst σ 150 15 (v5 - 1)) fun σ6 =>
  fR_release_53 R0 o1 x2 x3 x4 σ6
def fR_release_7 : Nat → Nat → Int → Int → Zm → Zr
  | 0, _, _, _, _ => none
  | n + 1, o1, x2, x3, σ =>
    zlet (fun (o1 : Nat) (x2 : Int) (x3 : Int) (σ : Zm) => fR_release_7 n o1 x2 x3 σ) fun R0 =>
    if x3 < 0 then
      some (0, σ)
    else
    zck x3 300 <| zlet (zrd σ 152 x3.toNat) fun v3 =>
    zck v3 15 <| zlet (zLv v3.toNat) fun v4 =>
    if x2 ≤ v4 then
      if v3 = 3 then
        fR_release_43 R0 o1 x2 x3 v3 σ
      else
      if ¬ v3 = 14 then
        fR_release_53 R0 o1 x2 x3 v3 σ
      else
      fR_release_43 R0 o1 x2 x3 v3 σ
    else
    some (0, σ)
def fR_release (σ : Zm) (o1 : Nat) (x2 : Int) : Zr :=
  zlet (zrd σ 150 13) fun v1 =>
  zlet (zw (v1 - 1)) fun v2 =>
  fR_release_7 5000 o1 x2 v2 σ
def fR_shutParenthesis (σ : Zm) (o1 : Nat) : Zr :=
  zbv (fR_release σ o1 1) fun σ1 =>
  zlet (zrd σ1 150 13) fun v2 =>
  zlet (max 0 (zw (v2 - 1))) fun v3 =>
  zlet (zst σ1 150 13 v3) fun σ4 =>
  zlet (zrd σ4 150 14) fun v5 =>
  zlet (zst σ4 150 14 (v5 - 1)) fun σ6 =>
  zlet (zrd σ6 150 15) fun v7 =>
  zlet (zst σ6 150 15 (v7 - 1)) fun σ8 =>
  some (0, σ8)
def fR_takeBehind_268 (o1 : Nat) (x3 : Int) (σ : Zm) : Zr :=
  zlet (zrd σ 150 7) fun v11 =>
  if ¬ v11 = 16 then
    zbv (fR_refuse σ 1) fun σ12 =>
    some (0, σ12)
  else
  if x3 = 0 then
    zbv (fR_refuse σ 1) fun σ13 =>
    some (0, σ13)
  else
  zbv (fR_release σ o1 1) fun σ14 =>
  zbv (fU_close σ14 o1) fun σ15 =>
  zlet (zst σ15 150 9 0) fun σ16 =>
  some (0, σ16)
def fR_takeBehind_225 (o1 : Nat) (x2 : Int) (x3 : Int) (σ : Zm) : Zr :=
  zlet (zrd σ 150 7) fun v10 =>
  if ¬ v10 = 17 then
    fR_takeBehind_268 o1 x3 σ
  else
  if x2 = 0 then
    fR_takeBehind_268 o1 x3 σ
  else
  zlet (zrd σ 150 11) fun v17 =>
  if v17 = 0 then
    fR_takeBehind_268 o1 x3 σ
  else
  zbv (fR_release σ o1 1) fun σ18 =>
  zbv (fU_beginCondition σ18 o1) fun σ19 =>
  zlet (zst σ19 150 11 0) fun σ20 =>
  zlet (zst σ20 150 9 1) fun σ21 =>
  some (0, σ21)
def fR_takeBehind_204 (σ : Zm) : Zr :=
  zlet (zrd σ 150 7) fun v24 =>
  zbv (fR_hold σ v24) fun σ25 =>
  zlet (zst σ25 150 12 0) fun σ26 =>
  zlet (zst σ26 150 9 1) fun σ27 =>
  some (0, σ27)
def fR_takeBehind_182 (o1 : Nat) (x2 : Int) (x3 : Int) (σ : Zm) : Zr :=
  if x3 = 0 then
    fR_takeBehind_225 o1 x2 x3 σ
  else
  zlet (zrd σ 150 7) fun v22 =>
  if ¬ v22 = 1 then
    zbv (fR_release σ o1 2) fun σ23 =>
    fR_takeBehind_204 σ23
  else
  zbv (fR_release σ o1 1) fun σ28 =>
  fR_takeBehind_204 σ28
def fR_takeBehind_166 (o1 : Nat) (x2 : Int) (x3 : Int) (σ : Zm) : Zr :=
  zlet (zrd σ 150 7) fun v9 =>
  if v9 = 1 then
    fR_takeBehind_182 o1 x2 x3 σ
  else
  zlet (zrd σ 150 7) fun v29 =>
  if ¬ v29 = 2 then
    fR_takeBehind_225 o1 x2 x3 σ
  else
  fR_takeBehind_182 o1 x2 x3 σ
def fR_takeBehind_108 (o1 : Nat) (x2 : Int) (x3 : Int) (σ : Zm) : Zr :=
  zlet (zrd σ 150 7) fun v6 =>
  zbi (fX_within σ v6 4 9) fun v8 σ7 =>
  if v8 = 0 then
    fR_takeBehind_166 o1 x2 x3 σ7
  else
  if x2 = 0 then
    fR_takeBehind_166 o1 x2 x3 σ7
  else
  zlet (zrd σ7 150 11) fun v30 =>
  if ¬ v30 = 0 then
    fR_takeBehind_166 o1 x2 x3 σ7
  else
  zlet (zrd σ7 150 12) fun v31 =>
  if ¬ v31 = 0 then
    fR_takeBehind_166 o1 x2 x3 σ7
  else
  zbv (fR_release σ7 o1 5) fun σ32 =>
  zlet (zrd σ32 150 7) fun v33 =>
  zbv (fR_hold σ32 v33) fun σ34 =>
  zlet (zst σ34 150 12 1) fun σ35 =>
  zlet (zst σ35 150 9 2) fun σ36 =>
  some (0, σ36)
def fR_takeBehind_37 (o1 : Nat) (x2 : Int) (x3 : Int) (σ : Zm) : Zr :=
  zlet (zrd σ 150 7) fun v2 =>
  zbi (fX_within σ v2 10 13) fun v4 σ3 =>
  if v4 = 0 then
    zlet (zrd σ3 150 7) fun v5 =>
    if ¬ v5 = 15 then
      fR_takeBehind_108 o1 x2 x3 σ3
    else
    if ¬ x2 = 0 then
      fR_takeBehind_108 o1 x2 x3 σ3
    else
    zbv (fR_shutParenthesis σ3 o1) fun σ37 =>
    some (0, σ37)
  else
  zlet (zrd σ3 150 7) fun v38 =>
  if 11 < v38 then
    zbv (fR_release σ3 o1 6) fun σ39 =>
    zlet (zrd σ39 150 7) fun v40 =>
    zbv (fR_hold σ39 v40) fun σ41 =>
    zlet (zst σ41 150 9 2) fun σ42 =>
    some (0, σ42)
  else
  zbv (fR_release σ3 o1 5) fun σ43 =>
  zlet (zrd σ43 150 7) fun v44 =>
  zbv (fR_hold σ43 v44) fun σ45 =>
  zlet (zst σ45 150 9 2) fun σ46 =>
  some (0, σ46)
def fR_takeBehind_35 (o1 : Nat) (x2 : Int) (σ : Zm) : Zr :=
  fR_takeBehind_37 o1 x2 0 σ
def fR_takeBehind_13 (o1 : Nat) (x2 : Int) (σ : Zm) : Zr :=
  if x2 = 0 then
    fR_takeBehind_35 o1 x2 σ
  else
  zlet (zrd σ 150 11) fun v47 =>
  if ¬ v47 = 0 then
    fR_takeBehind_35 o1 x2 σ
  else
  zlet (zrd σ 150 12) fun v48 =>
  if v48 = 0 then
    fR_takeBehind_35 o1 x2 σ
  else
  fR_takeBehind_37 o1 x2 1 σ
def fR_takeBehind (σ : Zm) (o1 : Nat) : Zr :=
  zlet (zrd σ 150 14) fun v1 =>
  if ¬ v1 = 0 then
    fR_takeBehind_13 o1 0 σ
  else
  fR_takeBehind_13 o1 1 σ
def fR_take (σ : Zm) (o1 : Nat) : Zr :=
  zlet (zrd σ 150 9) fun v1 =>
  if v1 = 0 then
    zbv (fR_takeSort σ o1) fun σ3 =>
    some (0, σ3)
  else
  if v1 = 1 then
    zbv (fR_takeOne σ o1) fun σ5 =>
    some (0, σ5)
  else
  if v1 = 2 then
    zbv (fR_takeOne σ o1) fun σ7 =>
    some (0, σ7)
  else
  zbv (fR_takeBehind σ o1) fun σ8 =>
  some (0, σ8)
def fR_read_32 : Nat → Nat → Int → Zm → Zr
  | 0, _, _, _ => none
  | n + 1, o1, x2, σ =>
    zlet (fun (o1 : Nat) (x2 : Int) (σ : Zm) => fR_read_32 n o1 x2 σ) fun R0 =>
    zlet (zrd σ 150 2) fun v7 =>
    if v7 < x2 then
      some (0, σ)
    else
    zlet (zrd σ 150 9) fun v8 =>
    if v8 = 4 then
      some (0, σ)
    else
    zlet (zrd σ 150 3) fun v9 =>
    if ¬ v9 = 0 then
      some (0, σ)
    else
    zbv (fR_scan σ) fun σ10 =>
    zbv (fR_take σ10 o1) fun σ11 =>
    R0 o1 (zw (x2 + 1)) σ11
def fR_read (σ : Zm) (o1 : Nat) : Zr :=
  zlet (zst σ 150 3 0) fun σ1 =>
  zlet (zst σ1 150 4 (-1)) fun σ2 =>
  zlet (zst σ2 150 5 0) fun σ3 =>
  zlet (zst σ3 150 9 0) fun σ4 =>
  zlet (zst σ4 o1 5 0) fun σ5 =>
  zlet (zst σ5 o1 6 0) fun σ6 =>
  fR_read_32 5000 o1 0 σ6
def fX_note_45 (x1 : Int) (x2 : Int) (x3 : Int) (x4 : Int) (x5 : Int) (σ : Zm) : Zr :=
  zck (zw ((x1 * 4) + x2)) 16 <|
  if ¬ x4 = (-1) then
    zbv (fL_sing σ (zRF 2 (zw ((x1 * 4) + x2)).toNat) x3 x4 x5) fun σ8 =>
    zbi (fS_lengthOf σ8 1 x1) fun v10 σ9 =>
    some (v10, σ9)
  else
  zbv (fL_silence σ (zRF 2 (zw ((x1 * 4) + x2)).toNat) x3 x5) fun σ11 =>
  zbi (fS_lengthOf σ11 1 x1) fun v13 σ12 =>
  some (v13, σ12)
def fX_note (σ : Zm) (x1 : Int) (x2 : Int) (x3 : Int) (x4 : Int) (x5 : Int) : Zr :=
  zbi (fX_isPiece σ x1) fun v2 σ1 =>
  if v2 = 0 then
    some ((-1), σ1)
  else
  zbi (fX_isVoice σ1 x2) fun v4 σ3 =>
  if v4 = 0 then
    some ((-1), σ3)
  else
  zbi (fX_isNote σ3 x3 x5 8 32) fun v6 σ5 =>
  if ¬ v6 = 0 then
    if x4 = (-1) then
      fX_note_45 x1 x2 x3 x4 x5 σ5
    else
    zbi (fX_isPitch σ5 x4) fun v15 σ14 =>
    if ¬ v15 = 0 then
      fX_note_45 x1 x2 x3 x4 x5 σ14
    else
    some ((-1), σ14)
  else
  some ((-1), σ5)
def fX_at (σ : Zm) (x1 : Int) (x2 : Int) (x3 : Int) : Zr :=
  zbi (fX_isPiece σ x1) fun v2 σ1 =>
  if v2 = 0 then
    some ((-1), σ1)
  else
  zbi (fX_isVoice σ1 x2) fun v4 σ3 =>
  if v4 = 0 then
    some ((-1), σ3)
  else
  zbi (fX_within σ3 x3 0 31) fun v6 σ5 =>
  if ¬ v6 = 0 then
    zck (zw ((x1 * 4) + x2)) 16 <|
    zck x3 (zLN ((zRF 2 (zw ((x1 * 4) + x2)).toNat) + 2)) <| zlet (zrd σ5 ((zRF 2 (zw ((x1 * 4) + x2)).toNat) + 2) x3.toNat) fun v8 =>
    if ¬ v8 = 0 then
      zck x3 (zLN ((zRF 2 (zw ((x1 * 4) + x2)).toNat) + 2)) <| zlet (zrd σ5 ((zRF 2 (zw ((x1 * 4) + x2)).toNat) + 2) x3.toNat) fun v9 =>
      if ¬ v9 = 2 then
        zck x3 (zLN ((zRF 2 (zw ((x1 * 4) + x2)).toNat) + 1)) <| zlet (zrd σ5 ((zRF 2 (zw ((x1 * 4) + x2)).toNat) + 1) x3.toNat) fun v10 =>
        some (v10, σ5)
      else
      zck x3 (zLN ((zRF 2 (zw ((x1 * 4) + x2)).toNat) + 1)) <| zlet (zrd σ5 ((zRF 2 (zw ((x1 * 4) + x2)).toNat) + 1) x3.toNat) fun v11 =>
      some (v11 + 100, σ5)
    else
    some ((-1), σ5)
  else
  some ((-1), σ5)
def fX_subject_40 (x1 : Int) (x2 : Int) (x3 : Int) (x4 : Int) (σ : Zm) : Zr :=
  zck x1 6 <|
  if ¬ x3 = (-100) then
    zbv (fL_sing σ (zRF 3 x1.toNat) x2 x3 x4) fun σ6 =>
    zbi (fL_beats σ6 (zRF 3 x1.toNat)) fun v8 σ7 =>
    some (v8, σ7)
  else
  zbv (fL_silence σ (zRF 3 x1.toNat) x2 x4) fun σ9 =>
  zbi (fL_beats σ9 (zRF 3 x1.toNat)) fun v11 σ10 =>
  some (v11, σ10)
def fX_subject (σ : Zm) (x1 : Int) (x2 : Int) (x3 : Int) (x4 : Int) : Zr :=
  zbi (fX_isSubject σ x1) fun v2 σ1 =>
  if v2 = 0 then
    some ((-1), σ1)
  else
  zbi (fX_isNote σ1 x2 x4 4 12) fun v4 σ3 =>
  if ¬ v4 = 0 then
    if x3 = (-100) then
      fX_subject_40 x1 x2 x3 x4 σ3
    else
    zbi (fX_within σ3 x3 (-20) 20) fun v13 σ12 =>
    if ¬ v13 = 0 then
      fX_subject_40 x1 x2 x3 x4 σ12
    else
    some ((-1), σ12)
  else
  some ((-1), σ3)
def fX_bar (σ : Zm) (x1 : Int) : Zr :=
  zbi (fX_within σ x1 1 12) fun v2 σ1 =>
  if ¬ v2 = 0 then
    zlet (zst σ1 1 7 x1) fun σ3 =>
    some (1, σ3)
  else
  some (0, σ1)
def fX_copy_18 : Nat → Int → Int → Int → Zm → Zr
  | 0, _, _, _, _ => none
  | n + 1, x1, x2, x3, σ =>
    zlet (fun (x1 : Int) (x2 : Int) (x3 : Int) (σ : Zm) => fX_copy_18 n x1 x2 x3 σ) fun R0 =>
    if 4 ≤ x3 then
      some (1, σ)
    else
    zck (zw ((x2 * 4) + x3)) 16 <|
    zck (zw ((x1 * 4) + x3)) 16 <|
    zbv (fL_take σ (zRF 2 (zw ((x2 * 4) + x3)).toNat) (zRF 2 (zw ((x1 * 4) + x3)).toNat)) fun σ7 =>
    R0 x1 x2 (zw (x3 + 1)) σ7
def fX_copy (σ : Zm) (x1 : Int) (x2 : Int) : Zr :=
  zbi (fX_isPiece σ x1) fun v2 σ1 =>
  if v2 = 0 then
    some (0, σ1)
  else
  zbi (fX_isPiece σ1 x2) fun v4 σ3 =>
  if ¬ v4 = 0 then
    fX_copy_18 5000 x1 x2 0 σ3
  else
  some (0, σ3)
def fX_feed (σ : Zm) (x1 : Int) (x2 : Int) (x3 : Int) (x4 : Int) (x5 : Int) : Zr :=
  zlet (zrd σ 150 2) fun v1 =>
  if zw (v1 + 20) ≤ 300 then
    zbv (fR_append σ x1) fun σ2 =>
    zbv (fR_append σ2 x2) fun σ3 =>
    zbv (fR_append σ3 x3) fun σ4 =>
    zbv (fR_append σ4 x4) fun σ5 =>
    zbv (fR_append σ5 x5) fun σ6 =>
    zlet (zrd σ6 150 2) fun v7 =>
    some (v7, σ6)
  else
  some ((-1), σ)
def fX_end (σ : Zm) (x1 : Int) : Zr :=
  if x1 < 0 then
    some ((-1), σ)
  else
  zlet (zrd σ 150 2) fun v1 =>
  if x1 ≤ v1 then
    zlet (zst σ 150 2 x1) fun σ2 =>
    some (x1, σ2)
  else
  some ((-1), σ)
def fX_text (σ : Zm) : Zr :=
  zlet (zrd σ 1 8) fun v1 =>
  if v1 < 6 then
    zlet (zrd σ 1 8) fun v2 =>
    zck v2 6 <|
    zbv (fR_read σ (zRF 149 v2.toNat)) fun σ4 =>
    zlet (zst σ4 150 2 0) fun σ5 =>
    zlet (zst σ5 0 11 1) fun σ6 =>
    zlet (zrd σ6 150 3) fun v7 =>
    if v7 = 0 then
      zlet (zrd σ6 1 8) fun v8 =>
      zck v8 6 <| zlet (zst σ6 5 v8.toNat 1) fun σ9 =>
      zlet (zrd σ9 1 8) fun v10 =>
      zlet (zst σ9 1 8 (v10 + 1)) fun σ11 =>
      zlet (zrd σ11 1 8) fun v12 =>
      some (v12 - 1, σ11)
    else
    some ((-1), σ6)
  else
  some ((-1), σ)
def fX_fault (σ : Zm) (x1 : Int) : Zr :=
  zlet (zrd σ 0 11) fun v1 =>
  if v1 = 0 then
    some ((-1), σ)
  else
  zbi (fX_within σ x1 0 1) fun v3 σ2 =>
  if ¬ v3 = 0 then
    if ¬ x1 = 0 then
      zlet (zrd σ2 150 4) fun v4 =>
      some (v4, σ2)
    else
    zlet (zrd σ2 150 3) fun v5 =>
    some (v5, σ2)
  else
  some ((-1), σ2)
def fX_isText (σ : Zm) (x1 : Int) : Zr :=
  zlet (zrd σ 1 8) fun v1 =>
  zbi (fX_within σ x1 0 (zw (v1 - 1))) fun v3 σ2 =>
  some (zb v3, σ2)
def fX_price (σ : Zm) (x1 : Int) (x2 : Int) : Zr :=
  zbi (fX_isText σ x1) fun v2 σ1 =>
  if v2 = 0 then
    some ((-1), σ1)
  else
  zbi (fX_isPiece σ1 x2) fun v4 σ3 =>
  if ¬ v4 = 0 then
    zlet (zrd σ3 1 7) fun v5 =>
    zbv (fJ_begin σ3 153 v5 (-1)) fun σ6 =>
    zck x1 6 <|
    zbv (fJ_askPiece σ6 153 (zRF 149 x1.toNat) 2 (zw (x2 * 4)) 0) fun σ8 =>
    zlet (zrd σ8 153 6) fun v9 =>
    some (v9, σ8)
  else
  some ((-1), σ3)
def fX_breaks (σ : Zm) (x1 : Int) (x2 : Int) (x3 : Int) (x4 : Int) : Zr :=
  zbi (fX_isText σ x1) fun v2 σ1 =>
  if v2 = 0 then
    some ((-1), σ1)
  else
  zbi (fX_isPiece σ1 x2) fun v4 σ3 =>
  if ¬ v4 = 0 then
    zlet (zrd σ3 1 7) fun v5 =>
    zbv (fJ_begin σ3 153 v5 x3) fun σ6 =>
    zck x1 6 <|
    zbv (fJ_askPiece σ6 153 (zRF 149 x1.toNat) 2 (zw (x2 * 4)) 0) fun σ8 =>
    if ¬ x3 = (-1) then
      if x3 < 0 then
        some ((-1), σ8)
      else
      zlet (zrd σ8 153 5) fun v9 =>
      if v9 ≤ x3 then
        some ((-1), σ8)
      else
      zbi (fX_within σ8 x4 0 4) fun v11 σ10 =>
      if ¬ v11 = 0 then
        zck x4 5 <| zlet (zrd σ10 156 x4.toNat) fun v12 =>
        some (v12, σ10)
      else
      some ((-1), σ10)
    else
    zlet (zrd σ8 153 5) fun v13 =>
    some (v13, σ8)
  else
  some ((-1), σ3)
def fX_hasNotes (σ : Zm) (x1 : Int) : Zr :=
  zbi (fX_isSubject σ x1) fun v2 σ1 =>
  if v2 = 0 then
    some (0, σ1)
  else
  zck x1 6 <|
  zbi (fL_beats σ1 (zRF 3 x1.toNat)) fun v5 σ4 =>
  if v5 ≤ 0 then
    some (0, σ4)
  else
  some (1, σ4)
def fX_fit_125 (x1 : Int) (x3 : Int) (x8 : Int) (σ : Zm) : Zr :=
  zck x1 6 <|
  zck x3 6 <|
  zbi (fF_priceOf σ (zRF 149 x1.toNat) (zRF 3 x3.toNat) x8 2147483647) fun v21 σ20 =>
  some (v21, σ20)
def fX_fit (σ : Zm) (x1 : Int) (x2 : Int) (x3 : Int) (x4 : Int) (x5 : Int) (x6 : Int) (x7 : Int) : Zr :=
  zbi (fX_isText σ x1) fun v2 σ1 =>
  if v2 = 0 then
    some ((-1), σ1)
  else
  zbi (fX_hasNotes σ1 x2) fun v4 σ3 =>
  if v4 = 0 then
    some ((-1), σ3)
  else
  zbi (fX_hasNotes σ3 x3) fun v6 σ5 =>
  if ¬ v6 = 0 then
    zbi (fX_within σ5 x4 (-12) 12) fun v8 σ7 =>
    if v8 = 0 then
      some ((-1), σ7)
    else
    zbi (fX_within σ7 x5 0 8) fun v10 σ9 =>
    if v10 = 0 then
      some ((-1), σ9)
    else
    zbi (fX_within σ9 x7 1 2) fun v12 σ11 =>
    if ¬ v12 = 0 then
      zck x1 6 <|
      zlet (zrd σ11 1 7) fun v14 =>
      zck x2 6 <|
      zbv (fF_begin σ11 (zRF 149 x1.toNat) v14 (zRF 3 x2.toNat)) fun σ16 =>
      if x6 = 0 then
        zlet (zw ((((((x7 - 1) * 450) + 0) + (x5 * 25)) + x4) + 12)) fun v17 =>
        fX_fit_125 x1 x3 v17 σ16
      else
      zlet (zw ((((((x7 - 1) * 450) + 225) + (x5 * 25)) + x4) + 12)) fun v22 =>
      fX_fit_125 x1 x3 v22 σ16
    else
    some ((-1), σ11)
  else
  some ((-1), σ5)
def fX_fits_78 : Nat → Int → Int → Int → Int → Int → Int → Zm → (Int → Int → Zm → Zr) → Zr
  | 0, _, _, _, _, _, _, _, _ => none
  | n + 1, x1, x3, x4, x5, x6, x7, σ, K142 =>
    zlet (fun (x1 : Int) (x3 : Int) (x4 : Int) (x5 : Int) (x6 : Int) (x7 : Int) (σ : Zm) => fX_fits_78 n x1 x3 x4 x5 x6 x7 σ K142) fun R0 =>
    if 900 ≤ x7 then
      K142 x5 x6 σ
    else
    zck x1 6 <|
    zck x3 6 <|
    zbi (fF_priceOf σ (zRF 149 x1.toNat) (zRF 3 x3.toNat) x7 x4) fun v16 σ15 =>
    if v16 ≤ x4 then
      if ¬ x6 = x5 then
        R0 x1 x3 x4 x5 (zw (x6 + 1)) (zw (x7 + 1)) σ15
      else
      zbi (fX_formCode σ15 x7) fun v18 σ17 =>
      some (v18, σ17)
    else
    R0 x1 x3 x4 x5 x6 (zw (x7 + 1)) σ15
def fX_fits (σ : Zm) (x1 : Int) (x2 : Int) (x3 : Int) (x4 : Int) (x5 : Int) : Zr :=
  zbi (fX_isText σ x1) fun v2 σ1 =>
  if v2 = 0 then
    some ((-1), σ1)
  else
  zbi (fX_hasNotes σ1 x2) fun v4 σ3 =>
  if v4 = 0 then
    some ((-1), σ3)
  else
  zbi (fX_hasNotes σ3 x3) fun v6 σ5 =>
  if v6 = 0 then
    some ((-1), σ5)
  else
  zbi (fX_within σ5 x4 0 1000000) fun v8 σ7 =>
  if v8 = 0 then
    some ((-1), σ7)
  else
  if (-1) ≤ x5 then
    zck x1 6 <|
    zlet (zrd σ7 1 7) fun v10 =>
    zck x2 6 <|
    zbv (fF_begin σ7 (zRF 149 x1.toNat) v10 (zRF 3 x2.toNat)) fun σ12 =>
    fX_fits_78 5000 x1 x3 x4 x5 0 0 σ12 fun y20 y21 σ19 =>
    if ¬ y20 = (-1) then
      some ((-1), σ19)
    else
    some (y21, σ19)
  else
  some ((-1), σ7)
def fX_cheapest (σ : Zm) (x1 : Int) (x2 : Int) (x3 : Int) (x4 : Int) : Zr :=
  zbi (fX_isText σ x1) fun v2 σ1 =>
  if v2 = 0 then
    some ((-1), σ1)
  else
  zbi (fX_hasNotes σ1 x2) fun v4 σ3 =>
  if v4 = 0 then
    some ((-1), σ3)
  else
  zbi (fX_hasNotes σ3 x3) fun v6 σ5 =>
  if v6 = 0 then
    some ((-1), σ5)
  else
  zbi (fX_within σ5 x4 0 1) fun v8 σ7 =>
  if ¬ v8 = 0 then
    zck x1 6 <|
    zlet (zrd σ7 1 7) fun v10 =>
    zck x2 6 <|
    zbv (fF_begin σ7 (zRF 149 x1.toNat) v10 (zRF 3 x2.toNat)) fun σ12 =>
    zck x1 6 <|
    zck x3 6 <|
    zbv (fF_findCheapest σ12 (zRF 149 x1.toNat) (zRF 3 x3.toNat) (-1)) fun σ15 =>
    if ¬ x4 = 0 then
      zlet (zrd σ15 157 10) fun v16 =>
      zbi (fX_formCode σ15 v16) fun v18 σ17 =>
      some (v18, σ17)
    else
    zlet (zrd σ15 157 9) fun v19 =>
    some (v19, σ15)
  else
  some ((-1), σ7)
def fX_three (σ : Zm) (x1 : Int) (x2 : Int) (x3 : Int) (x4 : Int) (x5 : Int) : Zr :=
  zbi (fX_isText σ x1) fun v2 σ1 =>
  if v2 = 0 then
    some ((-1), σ1)
  else
  zbi (fX_hasNotes σ1 x2) fun v4 σ3 =>
  if v4 = 0 then
    some ((-1), σ3)
  else
  zbi (fX_hasNotes σ3 x3) fun v6 σ5 =>
  if v6 = 0 then
    some ((-1), σ5)
  else
  zbi (fX_hasNotes σ5 x4) fun v8 σ7 =>
  if v8 = 0 then
    some ((-1), σ7)
  else
  zbi (fX_within σ7 x5 0 2) fun v10 σ9 =>
  if ¬ v10 = 0 then
    if x2 = x3 then
      some ((-1), σ9)
    else
    if x2 = x4 then
      some ((-1), σ9)
    else
    if ¬ x3 = x4 then
      zck x1 6 <|
      zlet (zrd σ9 1 7) fun v12 =>
      zck x2 6 <|
      zbv (fF_begin σ9 (zRF 149 x1.toNat) v12 (zRF 3 x2.toNat)) fun σ14 =>
      zck x1 6 <|
      zck x3 6 <|
      zck x4 6 <|
      zbv (fF_findThree σ14 (zRF 149 x1.toNat) (zRF 3 x3.toNat) (zRF 3 x4.toNat)) fun σ18 =>
      if ¬ x5 = 0 then
        if ¬ x5 = 1 then
          zlet (zrd σ18 157 11) fun v19 =>
          zbi (fX_formCode σ18 v19) fun v21 σ20 =>
          some (v21, σ20)
        else
        zlet (zrd σ18 157 10) fun v22 =>
        zbi (fX_formCode σ18 v22) fun v24 σ23 =>
        some (v24, σ23)
      else
      zlet (zrd σ18 157 9) fun v25 =>
      some (v25, σ18)
    else
    some ((-1), σ9)
  else
  some ((-1), σ9)
def fX_chance_97 : Nat → Int → Int → Int → Int → Int → Int → Int → Zm → Zr
  | 0, _, _, _, _, _, _, _, _ => none
  | n + 1, x1, x3, x4, x5, x6, x7, x8, σ =>
    zlet (fun (x1 : Int) (x3 : Int) (x4 : Int) (x5 : Int) (x6 : Int) (x7 : Int) (x8 : Int) (σ : Zm) => fX_chance_97 n x1 x3 x4 x5 x6 x7 x8 σ) fun R0 =>
    if x5 ≤ x8 then
      some (x7, σ)
    else
    zck x3 6 <|
    zbv (fF_shuffle σ (zRF 3 x3.toNat) (zw (x6 + (1000 * x8)))) fun σ18 =>
    zck x1 6 <|
    zbv (fF_findCheapest σ18 (zRF 149 x1.toNat) 171 x4) fun σ20 =>
    zlet (zrd σ20 157 9) fun v21 =>
    if x4 < v21 then
      R0 x1 x3 x4 x5 x6 x7 (zw (x8 + 1)) σ20
    else
    R0 x1 x3 x4 x5 x6 (zw (x7 + 1)) (zw (x8 + 1)) σ20
def fX_chance (σ : Zm) (x1 : Int) (x2 : Int) (x3 : Int) (x4 : Int) (x5 : Int) (x6 : Int) : Zr :=
  zbi (fX_isText σ x1) fun v2 σ1 =>
  if v2 = 0 then
    some ((-1), σ1)
  else
  zbi (fX_hasNotes σ1 x2) fun v4 σ3 =>
  if v4 = 0 then
    some ((-1), σ3)
  else
  zbi (fX_hasNotes σ3 x3) fun v6 σ5 =>
  if v6 = 0 then
    some ((-1), σ5)
  else
  zbi (fX_within σ5 x4 0 1000000) fun v8 σ7 =>
  if ¬ v8 = 0 then
    zbi (fX_within σ7 x5 1 40) fun v10 σ9 =>
    if v10 = 0 then
      some ((-1), σ9)
    else
    zbi (fX_within σ9 x6 0 9999) fun v12 σ11 =>
    if ¬ v12 = 0 then
      zck x1 6 <|
      zlet (zrd σ11 1 7) fun v14 =>
      zck x2 6 <|
      zbv (fF_begin σ11 (zRF 149 x1.toNat) v14 (zRF 3 x2.toNat)) fun σ16 =>
      fX_chance_97 5000 x1 x3 x4 x5 x6 0 0 σ16
    else
    some ((-1), σ11)
  else
  some ((-1), σ7)
def fX_learn_7 : Nat → Nat → Int → Int → Int → Zm → Zr
  | 0, _, _, _, _, _ => none
  | n + 1, o1, x2, x3, x4, σ =>
    zlet (fun (o1 : Nat) (x2 : Int) (x3 : Int) (x4 : Int) (σ : Zm) => fX_learn_7 n o1 x2 x3 x4 σ) fun R0 =>
    if 16 ≤ x4 then
      some (0, σ)
    else
    if zand (zshr x2 (Int.tdiv x4 4)) 1 = 0 then
      R0 o1 x2 x3 (zw (x4 + 1)) σ
    else
    zck x4 16 <|
    zbv (fT_add σ o1 (zRF 2 x4.toNat) x3) fun σ3 =>
    R0 o1 x2 x3 (zw (x4 + 1)) σ3
def fX_learn (σ : Zm) (o1 : Nat) (x2 : Int) (x3 : Int) : Zr :=
  zbv (fT_clear σ o1) fun σ1 =>
  fX_learn_7 5000 o1 x2 x3 0 σ1
def fX_seen (σ : Zm) (x1 : Int) (x2 : Int) : Zr :=
  zbi (fX_isSet σ x1) fun v2 σ1 =>
  if v2 = 0 then
    some ((-1), σ1)
  else
  zbi (fX_within σ1 x2 (-12) 12) fun v4 σ3 =>
  if ¬ v4 = 0 then
    zbv (fX_learn σ3 218 x1 101) fun σ5 =>
    zck (zw (x2 + 12)) 25 <| zlet (zrd σ5 219 (zw (x2 + 12)).toNat) fun v6 =>
    some (v6, σ5)
  else
  some ((-1), σ3)
def fX_strange (σ : Zm) (x1 : Int) (x2 : Int) : Zr :=
  zbi (fX_isSet σ x1) fun v2 σ1 =>
  if v2 = 0 then
    some ((-1), σ1)
  else
  zbi (fX_isPiece σ1 x2) fun v4 σ3 =>
  if ¬ v4 = 0 then
    zbv (fX_learn σ3 221 (zand x1 (zxor (zshl 1 x2) (-1))) 101) fun σ5 =>
    zbv (fX_learn σ5 218 (zshl 1 x2) 101) fun σ6 =>
    zbi (fT_strangeBy σ6 218 221) fun v8 σ7 =>
    some (v8, σ7)
  else
  some ((-1), σ3)
def fX_follows (σ : Zm) (x1 : Int) (x2 : Int) (x3 : Int) (x4 : Int) : Zr :=
  zbi (fX_isSet σ x1) fun v2 σ1 =>
  if v2 = 0 then
    some ((-1), σ1)
  else
  zbi (fX_isPiece σ1 x2) fun v4 σ3 =>
  if v4 = 0 then
    some ((-1), σ3)
  else
  zbi (fX_isVoice σ3 x3) fun v6 σ5 =>
  if v6 = 0 then
    some ((-1), σ5)
  else
  zbi (fX_isPitch σ5 x4) fun v8 σ7 =>
  if ¬ v8 = 0 then
    zck (zw ((x2 * 4) + x3)) 16 <|
    zbi (fL_noteAhead σ7 (zRF 2 (zw ((x2 * 4) + x3)).toNat) 32) fun v11 σ10 =>
    zbi (fL_noteAhead σ10 (zRF 2 (zw ((x2 * 4) + x3)).toNat) v11) fun v13 σ12 =>
    if v11 < 0 then
      some ((-1), σ12)
    else
    if 0 ≤ v13 then
      zck v11 (zLN ((zRF 2 (zw ((x2 * 4) + x3)).toNat) + 1)) <| zlet (zrd σ12 ((zRF 2 (zw ((x2 * 4) + x3)).toNat) + 1) v11.toNat) fun v14 =>
      zck v13 (zLN ((zRF 2 (zw ((x2 * 4) + x3)).toNat) + 1)) <| zlet (zrd σ12 ((zRF 2 (zw ((x2 * 4) + x3)).toNat) + 1) v13.toNat) fun v15 =>
      zbi (fX_boundedStep σ12 (zw (v14 - v15))) fun v17 σ16 =>
      zbv (fX_learn σ16 218 x1 v17) fun σ18 =>
      zlet (zrd σ18 218 3) fun v19 =>
      if 1 ≤ v19 then
        zck v11 (zLN ((zRF 2 (zw ((x2 * 4) + x3)).toNat) + 1)) <| zlet (zrd σ18 ((zRF 2 (zw ((x2 * 4) + x3)).toNat) + 1) v11.toNat) fun v20 =>
        zbi (fX_boundedStep σ18 (zw (x4 - v20))) fun v22 σ21 =>
        zck (zw (v22 + 12)) 25 <| zlet (zrd σ21 220 (zw (v22 + 12)).toNat) fun v23 =>
        zlet (zrd σ21 218 3) fun v24 =>
        zdv v24 <|
        some (Int.tdiv (zw (1000 * v23)) v24, σ21)
      else
      some ((-1), σ18)
    else
    some ((-1), σ12)
  else
  some ((-1), σ7)
def fX_never_71 : Nat → Nat → Int → Int → Int → Zm → Zr
  | 0, _, _, _, _, _ => none
  | n + 1, o4, x5, x6, x7, σ =>
    zlet (fun (o4 : Nat) (x5 : Int) (x6 : Int) (x7 : Int) (σ : Zm) => fX_never_71 n o4 x5 x6 x7 σ) fun R0 =>
    if 60 < x7 then
      some (x6, σ)
    else
    zck x5 (zLN (o4 + 1)) <| zlet (zrd σ (o4 + 1) x5.toNat) fun v11 =>
    zbi (fX_boundedStep σ (zw (x7 - v11))) fun v13 σ12 =>
    zck (zw (v13 + 12)) 25 <| zlet (zrd σ12 219 (zw (v13 + 12)).toNat) fun v14 =>
    if ¬ v14 = 0 then
      R0 o4 x5 x6 (zw (x7 + 1)) σ12
    else
    R0 o4 x5 (zw (x6 + 1)) (zw (x7 + 1)) σ12
def fX_never (σ : Zm) (x1 : Int) (x2 : Int) (x3 : Int) : Zr :=
  zbi (fX_isSet σ x1) fun v2 σ1 =>
  if v2 = 0 then
    some ((-1), σ1)
  else
  zbi (fX_isPiece σ1 x2) fun v4 σ3 =>
  if v4 = 0 then
    some ((-1), σ3)
  else
  zbi (fX_isVoice σ3 x3) fun v6 σ5 =>
  if ¬ v6 = 0 then
    zck (zw ((x2 * 4) + x3)) 16 <|
    zbi (fL_noteAhead σ5 (zRF 2 (zw ((x2 * 4) + x3)).toNat) 32) fun v9 σ8 =>
    if 0 ≤ v9 then
      zbv (fX_learn σ8 218 x1 101) fun σ10 =>
      fX_never_71 5000 (zRF 2 (zw ((x2 * 4) + x3)).toNat) v9 0 0 σ10
    else
    some ((-1), σ8)
  else
  some ((-1), σ5)
def fX_hand (σ : Zm) (x1 : Int) (x2 : Int) : Zr :=
  zbi (fX_isPiece σ x1) fun v2 σ1 =>
  if v2 = 0 then
    some (0, σ1)
  else
  zbi (fX_within σ1 x2 (-1) 3) fun v4 σ3 =>
  if ¬ v4 = 0 then
    zck x1 4 <| zlet (zst σ3 4 x1.toNat x2) fun σ5 =>
    some (1, σ5)
  else
  some (0, σ3)
def fX_apart (σ : Zm) (x1 : Int) (x2 : Int) : Zr :=
  zbi (fX_isSet σ x1) fun v2 σ1 =>
  if v2 = 0 then
    some ((-1), σ1)
  else
  zbi (fX_isSet σ1 x2) fun v4 σ3 =>
  if ¬ v4 = 0 then
    zbv (fX_learn σ3 218 x1 101) fun σ5 =>
    zbv (fX_learn σ5 221 x2 101) fun σ6 =>
    zbi (fT_distanceTo σ6 218 221) fun v8 σ7 =>
    some (v8, σ7)
  else
  some ((-1), σ3)
def fX_whose_39 : Nat → Int → Int → Int → Int → Int → Zm → Zr
  | 0, _, _, _, _, _, _ => none
  | n + 1, x1, x2, x3, x4, x5, σ =>
    zlet (fun (x1 : Int) (x2 : Int) (x3 : Int) (x4 : Int) (x5 : Int) (σ : Zm) => fX_whose_39 n x1 x2 x3 x4 x5 σ) fun R0 =>
    if 4 ≤ x5 then
      if ¬ x2 = 0 then
        some (x4, σ)
      else
      some (x3, σ)
    else
    zbi (fS_piecesOf σ 1 x5) fun v7 σ6 =>
    zbv (fX_learn σ6 221 (zand v7 (zxor (zshl 1 x1) (-1))) 101) fun σ8 =>
    zbi (fT_distanceTo σ8 218 221) fun v10 σ9 =>
    if v10 = (-1) then
      R0 x1 x2 x3 x4 (zw (x5 + 1)) σ9
    else
    if x3 = (-1) then
      R0 x1 x2 x5 v10 (zw (x5 + 1)) σ9
    else
    if x4 ≤ v10 then
      R0 x1 x2 x3 x4 (zw (x5 + 1)) σ9
    else
    R0 x1 x2 x5 v10 (zw (x5 + 1)) σ9
def fX_whose (σ : Zm) (x1 : Int) (x2 : Int) : Zr :=
  zbi (fX_isPiece σ x1) fun v2 σ1 =>
  if v2 = 0 then
    some ((-1), σ1)
  else
  zbi (fX_within σ1 x2 0 1) fun v4 σ3 =>
  if ¬ v4 = 0 then
    zbv (fX_learn σ3 218 (zshl 1 x1) 101) fun σ5 =>
    fX_whose_39 5000 x1 x2 (-1) (-1) 0 σ5
  else
  some ((-1), σ3)
def fX_isEnding_10 : Nat → Int → Int → Int → Int → Zm → Zr
  | 0, _, _, _, _, _ => none
  | n + 1, x1, x2, x3, x4, σ =>
    zlet (fun (x1 : Int) (x2 : Int) (x3 : Int) (x4 : Int) (σ : Zm) => fX_isEnding_10 n x1 x2 x3 x4 σ) fun R0 =>
    if 4 ≤ x4 then
      some (1, σ)
    else
    zck (zw ((x1 * 4) + x4)) 16 <|
    zck (zw ((x2 * 4) + x4)) 16 <|
    zbi (fL_isLike σ (zRF 2 (zw ((x1 * 4) + x4)).toNat) (zRF 2 (zw ((x2 * 4) + x4)).toNat) x3) fun v4 σ3 =>
    if ¬ v4 = 0 then
      R0 x1 x2 x3 (zw (x4 + 1)) σ3
    else
    some (0, σ3)
def fX_isEnding (σ : Zm) (x1 : Int) (x2 : Int) (x3 : Int) : Zr :=
  if ¬ x1 = x2 then
    fX_isEnding_10 5000 x1 x2 x3 0 σ
  else
  some (0, σ)
def fX_worth (σ : Zm) (x1 : Int) (x2 : Int) (x3 : Int) (x4 : Int) : Zr :=
  zlet (zrd σ 1 7) fun v1 =>
  zbv (fJ_begin σ 153 v1 (-1)) fun σ2 =>
  zck x1 6 <|
  zbv (fJ_askPiece σ2 153 (zRF 149 x1.toNat) 2 (zw (x3 * 4)) x4) fun σ4 =>
  zbv (fX_learn σ4 221 (zand x2 (zxor (zshl 1 x3) (-1))) 101) fun σ5 =>
  zbv (fX_learn σ5 218 (zshl 1 x3) 101) fun σ6 =>
  zlet (zrd σ6 153 6) fun v7 =>
  zbi (fT_strangeBy σ6 218 221) fun v9 σ8 =>
  zlet (max 0 v9) fun v10 =>
  some (v7 + v10, σ8)
def fX_endings_104 : Nat → Int → Int → Int → Int → Int → Int → Int → Int → Int → Zm → Zr
  | 0, _, _, _, _, _, _, _, _, _, _ => none
  | n + 1, x1, x2, x3, x4, x5, x6, x7, x8, x9, σ =>
    zlet (fun (x1 : Int) (x2 : Int) (x3 : Int) (x4 : Int) (x5 : Int) (x6 : Int) (x7 : Int) (x8 : Int) (x9 : Int) (σ : Zm) => fX_endings_104 n x1 x2 x3 x4 x5 x6 x7 x8 x9 σ) fun R0 =>
    if 4 ≤ x9 then
      if ¬ x5 = 0 then
        some (x7, σ)
      else
      some (x6, σ)
    else
    zbi (fX_isEnding σ x3 x9 x4) fun v14 σ13 =>
    if ¬ v14 = 0 then
      zbi (fX_worth σ13 x1 x2 x9 x4) fun v16 σ15 =>
      if x7 = (-1) then
        R0 x1 x2 x3 x4 x5 (zw (x6 + 1)) x9 v16 (zw (x9 + 1)) σ15
      else
      if x8 ≤ v16 then
        R0 x1 x2 x3 x4 x5 (zw (x6 + 1)) x7 x8 (zw (x9 + 1)) σ15
      else
      R0 x1 x2 x3 x4 x5 (zw (x6 + 1)) x9 v16 (zw (x9 + 1)) σ15
    else
    R0 x1 x2 x3 x4 x5 x6 x7 x8 (zw (x9 + 1)) σ13
def fX_endings (σ : Zm) (x1 : Int) (x2 : Int) (x3 : Int) (x4 : Int) (x5 : Int) : Zr :=
  zbi (fX_isText σ x1) fun v2 σ1 =>
  if v2 = 0 then
    some ((-1), σ1)
  else
  zbi (fX_isSet σ1 x2) fun v4 σ3 =>
  if v4 = 0 then
    some ((-1), σ3)
  else
  zbi (fX_isPiece σ3 x3) fun v6 σ5 =>
  if v6 = 0 then
    some ((-1), σ5)
  else
  zbi (fX_within σ5 x4 0 31) fun v8 σ7 =>
  if ¬ v8 = 0 then
    zbi (fX_within σ7 x5 10 13) fun v10 σ9 =>
    if v10 = 0 then
      zbi (fX_within σ9 x5 0 1) fun v12 σ11 =>
      if ¬ v12 = 0 then
        fX_endings_104 5000 x1 x2 x3 x4 x5 0 (-1) (-1) 0 σ11
      else
      some ((-1), σ11)
    else
    zbi (fX_isEnding σ9 x3 (zw (x5 - 10)) x4) fun v18 σ17 =>
    if v18 = 0 then
      some ((-1), σ17)
    else
    zbi (fX_worth σ17 x1 x2 (zw (x5 - 10)) x4) fun v20 σ19 =>
    some (v20, σ19)
  else
  some ((-1), σ7)
def fX_made (σ : Zm) (x1 : Int) (x2 : Int) (x3 : Int) (x4 : Int) (x5 : Int) : Zr :=
  zbi (fX_isText σ x1) fun v2 σ1 =>
  if v2 = 0 then
    some ((-1), σ1)
  else
  zbi (fX_isPiece σ1 x2) fun v4 σ3 =>
  if v4 = 0 then
    some ((-1), σ3)
  else
  zbi (fX_isVoice σ3 x3) fun v6 σ5 =>
  if v6 = 0 then
    some ((-1), σ5)
  else
  zbi (fX_within σ5 x4 1 5) fun v8 σ7 =>
  if ¬ v8 = 0 then
    zck (zw ((x2 * 4) + x3)) 16 <|
    zbi (fL_beats σ7 (zRF 2 (zw ((x2 * 4) + x3)).toNat)) fun v11 σ10 =>
    zbi (fX_within σ10 x5 (-1) (zw (x4 - 1))) fun v13 σ12 =>
    if v13 = 0 then
      some ((-1), σ12)
    else
    if v11 < 1 then
      some ((-1), σ12)
    else
    if zw (v11 + x4) ≤ 32 then
      zbv (fK_begin σ12 1 x2 x3 x4) fun σ14 =>
      zck x1 6 <|
      zbv (fK_solve σ14 (zRF 149 x1.toNat)) fun σ16 =>
      if ¬ x5 = (-1) then
        zck x5 5 <| zlet (zrd σ16 197 x5.toNat) fun v17 =>
        some (v17, σ16)
      else
      zlet (zrd σ16 177 10) fun v18 =>
      some (v18, σ16)
    else
    some ((-1), σ12)
  else
  some ((-1), σ7)
def fX_head_43 : Nat → Int → Int → Int → Int → Int → Int → Zm → (Int → Int → Int → Zm → Zr) → Zr
  | 0, _, _, _, _, _, _, _, _ => none
  | n + 1, x1, x2, x3, x4, x5, x6, σ, K99 =>
    zlet (fun (x1 : Int) (x2 : Int) (x3 : Int) (x4 : Int) (x5 : Int) (x6 : Int) (σ : Zm) => fX_head_43 n x1 x2 x3 x4 x5 x6 σ K99) fun R0 =>
    if 4 ≤ x6 then
      K99 x1 x4 x5 σ
    else
    zck x6 4 <|
    zck (zw ((((x2 * 4) + 4) - 1) - x6)) 16 <|
    zbi (fL_takeOverturned σ (zRF 224 x6.toNat) (zRF 2 (zw ((((x2 * 4) + 4) - 1) - x6)).toNat) x3) fun v12 σ11 =>
    if v12 = 0 then
      R0 x1 x2 x3 x4 0 (zw (x6 + 1)) σ11
    else
    if x5 = 0 then
      R0 x1 x2 x3 x4 0 (zw (x6 + 1)) σ11
    else
    R0 x1 x2 x3 x4 1 (zw (x6 + 1)) σ11
def fX_head_109 (x4 : Int) (x5 : Int) (σ : Zm) : Zr :=
  if ¬ x4 = 1 then
    if x5 = 0 then
      some (0, σ)
    else
    some (1, σ)
  else
  some ((-1), σ)
def fX_head (σ : Zm) (x1 : Int) (x2 : Int) (x3 : Int) (x4 : Int) : Zr :=
  zbi (fX_isText σ x1) fun v2 σ1 =>
  if v2 = 0 then
    some ((-1), σ1)
  else
  zbi (fX_isPiece σ1 x2) fun v4 σ3 =>
  if v4 = 0 then
    some ((-1), σ3)
  else
  zbi (fX_within σ3 x3 0 120) fun v6 σ5 =>
  if v6 = 0 then
    some ((-1), σ5)
  else
  zbi (fX_within σ5 x4 0 1) fun v8 σ7 =>
  if ¬ v8 = 0 then
    fX_head_43 5000 x1 x2 x3 x4 1 0 σ7 fun y14 y15 y16 σ13 =>
    if y15 = 0 then
      fX_head_109 y15 y16 σ13
    else
    if ¬ y16 = 0 then
      zlet (zrd σ13 1 7) fun v17 =>
      zbv (fJ_begin σ13 153 v17 (-1)) fun σ18 =>
      zck y14 6 <|
      zbv (fJ_askPiece σ18 153 (zRF 149 y14.toNat) 224 0 0) fun σ20 =>
      zlet (zrd σ20 153 6) fun v21 =>
      some (v21, σ20)
    else
    fX_head_109 y15 y16 σ13
  else
  some ((-1), σ7)
def fX_shape (σ : Zm) (x1 : Int) (x2 : Int) : Zr :=
  zlet (zrd σ 1 9) fun v1 =>
  if 10 ≤ v1 then
    some ((-1), σ)
  else
  zbi (fX_within σ x2 1 9999) fun v3 σ2 =>
  if v3 = 0 then
    some ((-1), σ2)
  else
  zbi (fX_within σ2 x1 1 x2) fun v5 σ4 =>
  if ¬ v5 = 0 then
    zlet (zrd σ4 1 9) fun v6 =>
    zck v6 10 <| zlet (zst σ4 6 v6.toNat x1) fun σ7 =>
    zlet (zrd σ7 1 9) fun v8 =>
    zck v8 10 <| zlet (zst σ7 7 v8.toNat x2) fun σ9 =>
    zlet (zrd σ9 1 9) fun v10 =>
    zlet (zst σ9 1 9 (v10 + 1)) fun σ11 =>
    zlet (zrd σ11 1 9) fun v12 =>
    some (v12, σ11)
  else
  some ((-1), σ4)
def fX_lasts_35 : Nat → Int → Int → Int → Int → Zm → Zr
  | 0, _, _, _, _, _ => none
  | n + 1, x2, x3, x4, x5, σ =>
    zlet (fun (x2 : Int) (x3 : Int) (x4 : Int) (x5 : Int) (σ : Zm) => fX_lasts_35 n x2 x3 x4 x5 σ) fun R0 =>
    zlet (zrd σ 1 9) fun v6 =>
    if v6 ≤ x5 then
      some (x4, σ)
    else
    zck x5 10 <| zlet (zrd σ 7 x5.toNat) fun v7 =>
    zck x5 10 <| zlet (zrd σ 6 x5.toNat) fun v8 =>
    zlet (max 1 v8) fun v9 =>
    zdv v9 <|
    zlet (zw (Int.tdiv (zw (x3 * v7)) v9)) fun v10 =>
    if x4 = (-1) then
      R0 x2 x3 v10 (zw (x5 + 1)) σ
    else
    if x2 = 0 then
      if x4 ≤ v10 then
        R0 x2 x3 x4 (zw (x5 + 1)) σ
      else
      R0 x2 x3 v10 (zw (x5 + 1)) σ
    else
    if v10 ≤ x4 then
      R0 x2 x3 x4 (zw (x5 + 1)) σ
    else
    R0 x2 x3 v10 (zw (x5 + 1)) σ
def fX_lasts (σ : Zm) (x1 : Int) (x2 : Int) : Zr :=
  zbi (fX_isPiece σ x1) fun v2 σ1 =>
  if v2 = 0 then
    some ((-1), σ1)
  else
  zlet (zrd σ1 1 9) fun v3 =>
  if 1 ≤ v3 then
    zbi (fS_lengthOf σ1 1 x1) fun v5 σ4 =>
    fX_lasts_35 5000 x2 v5 (-1) 0 σ4
  else
  some ((-1), σ1)
def fX_page (σ : Zm) (x1 : Int) (x2 : Int) (x3 : Int) (x4 : Int) : Zr :=
  zlet (zrd σ 1 10) fun v1 =>
  if 8 ≤ v1 then
    some ((-1), σ)
  else
  zbi (fX_within σ x1 0 99) fun v3 σ2 =>
  if v3 = 0 then
    some ((-1), σ2)
  else
  zbi (fX_within σ2 x2 0 9) fun v5 σ4 =>
  if ¬ v5 = 0 then
    zbi (fX_within σ4 x3 0 9) fun v7 σ6 =>
    if v7 = 0 then
      some ((-1), σ6)
    else
    zbi (fX_within σ6 x4 0 9) fun v9 σ8 =>
    if ¬ v9 = 0 then
      zlet (zrd σ8 1 10) fun v10 =>
      zlet (zw (v10 * 4)) fun v11 =>
      zck v11 32 <| zlet (zst σ8 8 v11.toNat x1) fun σ12 =>
      zck (zw (v11 + 1)) 32 <| zlet (zst σ12 8 (zw (v11 + 1)).toNat x2) fun σ13 =>
      zck (zw (v11 + 2)) 32 <| zlet (zst σ13 8 (zw (v11 + 2)).toNat x3) fun σ14 =>
      zck (zw (v11 + 3)) 32 <| zlet (zst σ14 8 (zw (v11 + 3)).toNat x4) fun σ15 =>
      zlet (zrd σ15 1 10) fun v16 =>
      zlet (zst σ15 1 10 (v16 + 1)) fun σ17 =>
      zlet (zrd σ17 1 10) fun v18 =>
      some (v18 - 1, σ17)
    else
    some ((-1), σ8)
  else
  some ((-1), σ4)
def fX_ordersOf (σ : Zm) (x1 : Int) : Zr :=
  zck x1 6 <|
  zbv (fB_link σ (zRF 149 x1.toNat) 1) fun σ2 =>
  zlet (zrd σ2 1 10) fun v3 =>
  zbi (fB_count σ2 v3 (-1) (-1)) fun v5 σ4 =>
  some (v5, σ4)
def fX_orders (σ : Zm) (x1 : Int) : Zr :=
  zbi (fX_isText σ x1) fun v2 σ1 =>
  if ¬ v2 = 0 then
    zbi (fX_ordersOf σ1 x1) fun v4 σ3 =>
    some (v4, σ3)
  else
  some ((-1), σ1)
def fX_where (σ : Zm) (x1 : Int) (x2 : Int) (x3 : Int) : Zr :=
  zbi (fX_isText σ x1) fun v2 σ1 =>
  if v2 = 0 then
    some ((-1), σ1)
  else
  zlet (zrd σ1 1 10) fun v3 =>
  zbi (fX_within σ1 x2 0 (zw (v3 - 1))) fun v5 σ4 =>
  if v5 = 0 then
    some ((-1), σ4)
  else
  zlet (zrd σ4 1 10) fun v6 =>
  zbi (fX_within σ4 x3 0 (zw (v6 - 1))) fun v8 σ7 =>
  if ¬ v8 = 0 then
    zck x1 6 <|
    zbv (fB_link σ7 (zRF 149 x1.toNat) 1) fun σ10 =>
    zlet (zrd σ10 1 10) fun v11 =>
    zbi (fB_count σ10 v11 x2 x3) fun v13 σ12 =>
    some (v13, σ12)
  else
  some ((-1), σ7)
def fX_weight (σ : Zm) (x1 : Int) (x2 : Int) : Zr :=
  zbi (fX_isText σ x1) fun v2 σ1 =>
  if v2 = 0 then
    some (0, σ1)
  else
  zbi (fX_within σ1 x2 0 9) fun v4 σ3 =>
  if ¬ v4 = 0 then
    zck x1 6 <| zlet (zst σ3 5 x1.toNat x2) fun σ5 =>
    some (1, σ5)
  else
  some (0, σ3)
def fX_story_43 : Nat → Int → Int → Int → Int → Int → Zm → (Int → Int → Zm → Zr) → Zr
  | 0, _, _, _, _, _, _, _ => none
  | n + 1, x1, x2, x3, x5, x7, σ, K109 =>
    zlet (fun (x1 : Int) (x2 : Int) (x3 : Int) (x5 : Int) (x7 : Int) (σ : Zm) => fX_story_43 n x1 x2 x3 x5 x7 σ K109) fun R0 =>
    zlet (zrd σ 1 8) fun v4 =>
    if v4 ≤ x7 then
      K109 x3 x5 σ
    else
    if ¬ zand (zshr x1 x7) 1 = 0 then
      zck x7 6 <| zlet (zrd σ 5 x7.toNat) fun v5 =>
      zbi (fX_ordersOf σ x7) fun v7 σ6 =>
      zlet (zx (v5 * v7)) fun v8 =>
      zlet (zx (x3 + v8)) fun v9 =>
      if ¬ x7 = x2 then
        R0 x1 x2 v9 x5 (zw (x7 + 1)) σ6
      else
      R0 x1 x2 v9 v8 (zw (x7 + 1)) σ6
    else
    R0 x1 x2 x3 x5 (zw (x7 + 1)) σ
def fX_story (σ : Zm) (x1 : Int) (x2 : Int) : Zr :=
  zbi (fX_isText σ x2) fun v2 σ1 =>
  if v2 = 0 then
    some ((-1), σ1)
  else
  if x1 < 0 then
    some ((-1), σ1)
  else
  zlet (zrd σ1 1 8) fun v3 =>
  if zshl 1 v3 ≤ x1 then
    some ((-1), σ1)
  else
  if ¬ zand (zshr x1 x2) 1 = 0 then
    fX_story_43 5000 x1 x2 0 0 0 σ1 fun y11 y12 σ10 =>
    if 0 ≤ zlc y11 1 then
      zdv y11 <|
      some (Int.tdiv (zx (1000 * y12)) y11, σ10)
    else
    some ((-1), σ10)
  else
  some ((-1), σ1)
def fX_image (σ : Zm) : Zr :=
  zbv (fS_take σ 75 1) fun σ1 =>
  zlet (zrd σ1 1 8) fun v2 =>
  some (v2, σ1)
def fX_back (σ : Zm) : Zr :=
  zbv (fS_take σ 1 75) fun σ1 =>
  zlet (zrd σ1 1 8) fun v2 =>
  some (v2, σ1)
def fX_aboutOne (σ : Zm) (x1 : Int) : Zr :=
  zbi (fX_within σ x1 10 13) fun v2 σ1 =>
  if v2 = 0 then
    zbi (fX_within σ1 x1 20 23) fun v4 σ3 =>
    if v4 = 0 then
      zbi (fX_within σ3 x1 30 35) fun v6 σ5 =>
      if v6 = 0 then
        zlet (zrd σ5 1 8) fun v7 =>
        zbi (fX_within σ5 x1 40 (zw ((40 + v7) - 1))) fun v9 σ8 =>
        if v9 = 0 then
          some ((-2), σ8)
        else
        zck (zw (x1 - 40)) 6 <| zlet (zrd σ8 5 (zw (x1 - 40)).toNat) fun v10 =>
        some (v10, σ8)
      else
      zck (zw (x1 - 30)) 6 <|
      zbi (fL_beats σ5 (zRF 3 (zw (x1 - 30)).toNat)) fun v13 σ12 =>
      some (v13, σ12)
    else
    zck (zw (x1 - 20)) 4 <| zlet (zrd σ3 4 (zw (x1 - 20)).toNat) fun v14 =>
    some (v14, σ3)
  else
  zbi (fS_lengthOf σ1 1 (zw (x1 - 10))) fun v16 σ15 =>
  some (v16, σ15)
def fX_about (σ : Zm) (x1 : Int) : Zr :=
  if x1 = 0 then
    zlet (zrd σ 1 7) fun v2 =>
    some (v2, σ)
  else
  if x1 = 1 then
    zlet (zrd σ 1 8) fun v4 =>
    some (v4, σ)
  else
  if x1 = 2 then
    zlet (zrd σ 1 10) fun v6 =>
    some (v6, σ)
  else
  if x1 = 3 then
    zlet (zrd σ 1 9) fun v8 =>
    some (v8, σ)
  else
  if x1 = 4 then
    zlet (zrd σ 150 2) fun v10 =>
    some (v10, σ)
  else
  zbi (fX_aboutOne σ x1) fun v12 σ11 =>
  some (v12, σ11)
def fM_copyRow_2 : Nat → Nat → Nat → Int → Zm → Zr
  | 0, _, _, _, _ => none
  | n + 1, o0, o1, x2, σ =>
    zlet (fun (o0 : Nat) (o1 : Nat) (x2 : Int) (σ : Zm) => fM_copyRow_2 n o0 o1 x2 σ) fun R0 =>
    if 700 ≤ x2 then
      some (0, σ)
    else
    zck x2 (zLN o0) <| zlet (zrd σ o0 x2.toNat) fun v1 =>
    zck x2 (zLN o1) <| zlet (zst σ o1 x2.toNat v1) fun σ2 =>
    R0 o0 o1 (zw (x2 + 1)) σ2
def fM_copyRow (σ : Zm) (o0 : Nat) (o1 : Nat) : Zr :=
  fM_copyRow_2 5000 o0 o1 0 σ
def fM_isIn (σ : Zm) (x0 : Int) (x1 : Int) (x2 : Int) : Zr :=
  if x0 < x1 then
    some (0, σ)
  else
  if x2 < x0 then
    some (0, σ)
  else
  some (1, σ)
def fM_abs (σ : Zm) (x0 : Int) : Zr :=
  if 0 ≤ x0 then
    some (x0, σ)
  else
  some (-x0, σ)
def fM_isPiece (σ : Zm) (x0 : Int) : Zr :=
  zbi (fM_isIn σ x0 0 3) fun v2 σ1 =>
  some (zb v2, σ1)
def fM_isVoice (σ : Zm) (x0 : Int) : Zr :=
  zbi (fM_isIn σ x0 0 3) fun v2 σ1 =>
  some (zb v2, σ1)
def fM_spot (σ : Zm) (x0 : Int) (x1 : Int) (x2 : Int) : Zr :=
  some (((10 + (128 * x0)) + (32 * x1)) + x2, σ)
def fM_lengthOf_12 : Nat → Int → Int → Int → Int → Zm → (Int → Int → Int → Zm → Zr) → Zr
  | 0, _, _, _, _, _, _ => none
  | n + 1, x1, x2, x3, x4, σ, K51 =>
    zlet (fun (x1 : Int) (x2 : Int) (x3 : Int) (x4 : Int) (σ : Zm) => fM_lengthOf_12 n x1 x2 x3 x4 σ K51) fun R0 =>
    if 32 ≤ x4 then
      K51 x1 x2 x3 σ
    else
    zbi (fM_spot σ x1 x3 x4) fun v2 σ1 =>
    zck v2 700 <| zlet (zrd σ1 274 v2.toNat) fun v3 =>
    if v3 < 0 then
      R0 x1 x2 x3 (zw (x4 + 1)) σ1
    else
    if x4 < x2 then
      R0 x1 x2 x3 (zw (x4 + 1)) σ1
    else
    zlet (zw (x4 + 1)) fun v4 =>
    R0 x1 v4 x3 (zw (x4 + 1)) σ1
def fM_lengthOf_4 : Nat → Int → Int → Int → Zm → Zr
  | 0, _, _, _, _ => none
  | n + 1, x1, x2, x3, σ =>
    zlet (fun (x1 : Int) (x2 : Int) (x3 : Int) (σ : Zm) => fM_lengthOf_4 n x1 x2 x3 σ) fun R0 =>
    if 4 ≤ x3 then
      some (x2, σ)
    else
    fM_lengthOf_12 5000 x1 x2 x3 0 σ fun y6 y7 y8 σ5 =>
    R0 y6 y7 (zw (y8 + 1)) σ5
def fM_lengthOf (σ : Zm) (x1 : Int) : Zr :=
  fM_lengthOf_4 5000 x1 0 0 σ
def fM_note_60 : Nat → Int → Int → Int → Int → Int → Int → Zm → (Int → Int → Int → Int → Zm → Zr) → Zr
  | 0, _, _, _, _, _, _, _, _ => none
  | n + 1, x1, x2, x3, x4, x5, x6, σ, K111 =>
    zlet (fun (x1 : Int) (x2 : Int) (x3 : Int) (x4 : Int) (x5 : Int) (x6 : Int) (σ : Zm) => fM_note_60 n x1 x2 x3 x4 x5 x6 σ K111) fun R0 =>
    if x5 ≤ x6 then
      K111 x1 x2 x3 x5 σ
    else
    zbi (fM_spot σ x1 x2 (zw (x3 + x6))) fun v12 σ11 =>
    if 0 ≤ x4 then
      if ¬ x6 = 0 then
        zck v12 700 <| zlet (zst σ11 274 v12.toNat (x4 + 100)) fun σ13 =>
        R0 x1 x2 x3 x4 x5 (zw (x6 + 1)) σ13
      else
      zck v12 700 <| zlet (zst σ11 274 v12.toNat x4) fun σ14 =>
      R0 x1 x2 x3 x4 x5 (zw (x6 + 1)) σ14
    else
    zck v12 700 <| zlet (zst σ11 274 v12.toNat (-1)) fun σ15 =>
    R0 x1 x2 x3 x4 x5 (zw (x6 + 1)) σ15
def fM_note (σ : Zm) (x1 : Int) (x2 : Int) (x3 : Int) (x4 : Int) (x5 : Int) : Zr :=
  zbi (fM_isPiece σ x1) fun v2 σ1 =>
  if v2 = 0 then
    some ((-1), σ1)
  else
  zbi (fM_isVoice σ1 x2) fun v4 σ3 =>
  if v4 = 0 then
    some ((-1), σ3)
  else
  zbi (fM_isIn σ3 x3 0 31) fun v6 σ5 =>
  if v6 = 0 then
    some ((-1), σ5)
  else
  zbi (fM_isIn σ5 x4 (-1) 60) fun v8 σ7 =>
  if v8 = 0 then
    some ((-1), σ7)
  else
  zbi (fM_isIn σ7 x5 1 8) fun v10 σ9 =>
  if v10 = 0 then
    some ((-1), σ9)
  else
  if zw (x3 + x5) ≤ 32 then
    fM_note_60 5000 x1 x2 x3 x4 x5 0 σ9 fun y17 y18 y19 y20 σ16 =>
    zbi (fM_spot σ16 y17 y18 y19) fun v22 σ21 =>
    zlet (zw (v22 + y20)) fun v23 =>
    if 32 ≤ zw (y19 + y20) then
      zbi (fM_lengthOf σ21 y17) fun v25 σ24 =>
      some (v25, σ24)
    else
    zck v23 700 <| zlet (zrd σ21 274 v23.toNat) fun v26 =>
    if v26 < 100 then
      zbi (fM_lengthOf σ21 y17) fun v28 σ27 =>
      some (v28, σ27)
    else
    zck v23 700 <| zlet (zrd σ21 274 v23.toNat) fun v29 =>
    zck v23 700 <| zlet (zst σ21 274 v23.toNat (v29 - 100)) fun σ30 =>
    zbi (fM_lengthOf σ30 y17) fun v32 σ31 =>
    some (v32, σ31)
  else
  some ((-1), σ9)
def fM_at (σ : Zm) (x1 : Int) (x2 : Int) (x3 : Int) : Zr :=
  zbi (fM_isPiece σ x1) fun v2 σ1 =>
  if v2 = 0 then
    some ((-1), σ1)
  else
  zbi (fM_isVoice σ1 x2) fun v4 σ3 =>
  if v4 = 0 then
    some ((-1), σ3)
  else
  zbi (fM_isIn σ3 x3 0 31) fun v6 σ5 =>
  if v6 = 0 then
    some ((-1), σ5)
  else
  zbi (fM_spot σ5 x1 x2 x3) fun v8 σ7 =>
  zck v8 700 <| zlet (zrd σ7 274 v8.toNat) fun v9 =>
  some (v9, σ7)
def fM_isSubject (σ : Zm) (x0 : Int) : Zr :=
  zbi (fM_isIn σ x0 0 5) fun v2 σ1 =>
  some (zb v2, σ1)
def fM_beatsOf_4 : Nat → Int → Int → Int → Zm → Zr
  | 0, _, _, _, _ => none
  | n + 1, x1, x2, x3, σ =>
    zlet (fun (x1 : Int) (x2 : Int) (x3 : Int) (σ : Zm) => fM_beatsOf_4 n x1 x2 x3 σ) fun R0 =>
    if 12 ≤ x3 then
      some (x2, σ)
    else
    zck (zw ((530 + (12 * x1)) + x3)) 700 <| zlet (zrd σ 274 (zw ((530 + (12 * x1)) + x3)).toNat) fun v1 =>
    if v1 = (-1000) then
      R0 x1 x2 (zw (x3 + 1)) σ
    else
    zlet (zw (x3 + 1)) fun v2 =>
    R0 x1 v2 (zw (x3 + 1)) σ
def fM_beatsOf (σ : Zm) (x1 : Int) : Zr :=
  fM_beatsOf_4 5000 x1 0 0 σ
def fM_isHeld (σ : Zm) (x0 : Int) : Zr :=
  if x0 ≤ 50 then
    some (0, σ)
  else
  some (1, σ)
def fM_subject_70 : Nat → Int → Int → Int → Int → Int → Int → Zm → (Int → Int → Int → Int → Zm → Zr) → Zr
  | 0, _, _, _, _, _, _, _, _ => none
  | n + 1, x1, x2, x3, x4, x5, x6, σ, K118 =>
    zlet (fun (x1 : Int) (x2 : Int) (x3 : Int) (x4 : Int) (x5 : Int) (x6 : Int) (σ : Zm) => fM_subject_70 n x1 x2 x3 x4 x5 x6 σ K118) fun R0 =>
    if x4 ≤ x6 then
      K118 x1 x2 x4 x5 σ
    else
    if ¬ x3 = (-100) then
      if ¬ x6 = 0 then
        zck (zw (x5 + x6)) 700 <| zlet (zst σ 274 (zw (x5 + x6)).toNat (x3 + 100)) fun σ10 =>
        R0 x1 x2 x3 x4 x5 (zw (x6 + 1)) σ10
      else
      zck (zw (x5 + x6)) 700 <| zlet (zst σ 274 (zw (x5 + x6)).toNat x3) fun σ11 =>
      R0 x1 x2 x3 x4 x5 (zw (x6 + 1)) σ11
    else
    zck (zw (x5 + x6)) 700 <| zlet (zst σ 274 (zw (x5 + x6)).toNat (-1000)) fun σ12 =>
    R0 x1 x2 x3 x4 x5 (zw (x6 + 1)) σ12
def fM_subject_34 (x1 : Int) (x2 : Int) (x3 : Int) (x4 : Int) (σ : Zm) : Zr :=
  zbi (fM_isIn σ x4 1 4) fun v8 σ7 =>
  if v8 = 0 then
    some ((-1), σ7)
  else
  if zw (x2 + x4) ≤ 12 then
    zlet (zw ((530 + (12 * x1)) + x2)) fun v9 =>
    fM_subject_70 5000 x1 x2 x3 x4 v9 0 σ7 fun y14 y15 y16 y17 σ13 =>
    if 12 ≤ zw (y15 + y16) then
      zbi (fM_beatsOf σ13 y14) fun v19 σ18 =>
      some (v19, σ18)
    else
    zck (zw (y17 + y16)) 700 <| zlet (zrd σ13 274 (zw (y17 + y16)).toNat) fun v20 =>
    zbi (fM_isHeld σ13 v20) fun v22 σ21 =>
    if v22 = 0 then
      zbi (fM_beatsOf σ21 y14) fun v24 σ23 =>
      some (v24, σ23)
    else
    zck (zw (y17 + y16)) 700 <| zlet (zrd σ21 274 (zw (y17 + y16)).toNat) fun v25 =>
    zck (zw (y17 + y16)) 700 <| zlet (zst σ21 274 (zw (y17 + y16)).toNat (v25 - 100)) fun σ26 =>
    zbi (fM_beatsOf σ26 y14) fun v28 σ27 =>
    some (v28, σ27)
  else
  some ((-1), σ7)
def fM_subject (σ : Zm) (x1 : Int) (x2 : Int) (x3 : Int) (x4 : Int) : Zr :=
  zbi (fM_isSubject σ x1) fun v2 σ1 =>
  if v2 = 0 then
    some ((-1), σ1)
  else
  zbi (fM_isIn σ1 x2 0 11) fun v4 σ3 =>
  if v4 = 0 then
    some ((-1), σ3)
  else
  zbi (fM_isIn σ3 x3 (-20) 20) fun v6 σ5 =>
  if ¬ v6 = 0 then
    fM_subject_34 x1 x2 x3 x4 σ5
  else
  if ¬ x3 = (-100) then
    some ((-1), σ5)
  else
  fM_subject_34 x1 x2 x3 x4 σ5
def fM_bar (σ : Zm) (x1 : Int) : Zr :=
  zbi (fM_isIn σ x1 1 12) fun v2 σ1 =>
  if ¬ v2 = 0 then
    zck 0 700 <| zlet (zst σ1 274 0 x1) fun σ3 =>
    some (1, σ3)
  else
  some (0, σ1)
def fM_copy_18 : Nat → Int → Int → Int → Zm → Zr
  | 0, _, _, _, _ => none
  | n + 1, x1, x2, x3, σ =>
    zlet (fun (x1 : Int) (x2 : Int) (x3 : Int) (σ : Zm) => fM_copy_18 n x1 x2 x3 σ) fun R0 =>
    if 128 ≤ x3 then
      some (1, σ)
    else
    zck (zw ((10 + (128 * x1)) + x3)) 700 <| zlet (zrd σ 274 (zw ((10 + (128 * x1)) + x3)).toNat) fun v5 =>
    zck (zw ((10 + (128 * x2)) + x3)) 700 <| zlet (zst σ 274 (zw ((10 + (128 * x2)) + x3)).toNat v5) fun σ6 =>
    R0 x1 x2 (zw (x3 + 1)) σ6
def fM_copy (σ : Zm) (x1 : Int) (x2 : Int) : Zr :=
  zbi (fM_isPiece σ x1) fun v2 σ1 =>
  if v2 = 0 then
    some (0, σ1)
  else
  zbi (fM_isPiece σ1 x2) fun v4 σ3 =>
  if ¬ v4 = 0 then
    fM_copy_18 5000 x1 x2 0 σ3
  else
  some (0, σ3)
def fM_four_3 : Nat → Int → Int → Zm → Zr
  | 0, _, _, _ => none
  | n + 1, x1, x2, σ =>
    zlet (fun (x1 : Int) (x2 : Int) (σ : Zm) => fM_four_3 n x1 x2 σ) fun R0 =>
    if x2 < 0 then
      some (0, σ)
    else
    zlet (zrd σ 273 4) fun v1 =>
    zck v1 300 <| zlet (zst σ 277 v1.toNat (zand (zshr x1 x2) 255)) fun σ2 =>
    zlet (zrd σ2 273 4) fun v3 =>
    zlet (zst σ2 273 4 (v3 + 1)) fun σ4 =>
    R0 x1 (zw (x2 + (-8))) σ4
def fM_four (σ : Zm) (x1 : Int) : Zr :=
  fM_four_3 5000 x1 24 σ
def fM_feed (σ : Zm) (x1 : Int) (x2 : Int) (x3 : Int) (x4 : Int) (x5 : Int) : Zr :=
  zlet (zrd σ 273 4) fun v1 =>
  if zw (v1 + 20) ≤ 300 then
    zbv (fM_four σ x1) fun σ2 =>
    zbv (fM_four σ2 x2) fun σ3 =>
    zbv (fM_four σ3 x3) fun σ4 =>
    zbv (fM_four σ4 x4) fun σ5 =>
    zbv (fM_four σ5 x5) fun σ6 =>
    zlet (zrd σ6 273 4) fun v7 =>
    some (v7, σ6)
  else
  some ((-1), σ)
def fM_end (σ : Zm) (x1 : Int) : Zr :=
  zlet (zrd σ 273 4) fun v1 =>
  zbi (fM_isIn σ x1 0 v1) fun v3 σ2 =>
  if ¬ v3 = 0 then
    zlet (zst σ2 273 4 x1) fun σ4 =>
    some (x1, σ4)
  else
  some ((-1), σ2)
def fM_byteAt (σ : Zm) (x1 : Int) : Zr :=
  zlet (zrd σ 273 4) fun v1 =>
  if v1 ≤ x1 then
    some ((-1), σ)
  else
  zck x1 300 <| zlet (zrd σ 277 x1.toNat) fun v2 =>
  some (v2, σ)
def fM_isLetter (σ : Zm) (x0 : Int) : Zr :=
  zbi (fM_isIn σ x0 97 122) fun v2 σ1 =>
  if ¬ v2 = 0 then
    some (1, σ1)
  else
  zbi (fM_isIn σ1 x0 65 90) fun v4 σ3 =>
  if v4 = 0 then
    some (0, σ3)
  else
  some (1, σ3)
def fM_isDigit (σ : Zm) (x0 : Int) : Zr :=
  zbi (fM_isIn σ x0 48 57) fun v2 σ1 =>
  some (zb v2, σ1)
def fM_nextToken_0 : Nat → Zm → (Zm → Zr) → Zr
  | 0, _, _ => none
  | n + 1, σ, K39 =>
    zlet (fun (σ : Zm) => fM_nextToken_0 n σ K39) fun R0 =>
    zlet (zrd σ 273 7) fun v1 =>
    zbi (fM_byteAt σ v1) fun v3 σ2 =>
    if v3 = 32 then
      zlet (zrd σ2 273 7) fun v4 =>
      zlet (zst σ2 273 7 (v4 + 1)) fun σ5 =>
      R0 σ5
    else
    zlet (zrd σ2 273 7) fun v6 =>
    zbi (fM_byteAt σ2 v6) fun v8 σ7 =>
    if ¬ v8 = 10 then
      K39 σ7
    else
    zlet (zrd σ7 273 7) fun v9 =>
    zlet (zst σ7 273 7 (v9 + 1)) fun σ10 =>
    R0 σ10
def fM_nextToken_352 (x1 : Int) (σ : Zm) : Zr :=
  zlet (zrd σ 273 7) fun v24 =>
  zbi (fM_byteAt σ v24) fun v26 σ25 =>
  if ¬ v26 = 61 then
    some (0, σ25)
  else
  zlet (zrd σ25 273 7) fun v27 =>
  zlet (zst σ25 273 7 (v27 + 1)) fun σ28 =>
  if ¬ x1 = 60 then
    zlet (zst σ28 273 9 5) fun σ29 =>
    some (0, σ29)
  else
  zlet (zst σ28 273 9 4) fun σ30 =>
  some (0, σ30)
def fM_nextToken_340 (x1 : Int) (σ : Zm) : Zr :=
  if x1 = 60 then
    fM_nextToken_352 x1 σ
  else
  if ¬ x1 = 62 then
    some (0, σ)
  else
  fM_nextToken_352 x1 σ
def fM_nextToken_327 (x1 : Int) (x2 : Int) (σ : Zm) : Zr :=
  if x2 = 0 then
    zlet (zst σ 273 9 3) fun σ23 =>
    fM_nextToken_340 x1 σ23
  else
  zlet (zst σ 273 9 x1) fun σ31 =>
  fM_nextToken_340 x1 σ31
def fM_nextToken_321 (x1 : Int) (σ : Zm) : Zr :=
  fM_nextToken_327 x1 1 σ
def fM_nextToken_161 : Nat → Zm → (Zm → Zr) → Zr
  | 0, _, _ => none
  | n + 1, σ, K223 =>
    zlet (fun (σ : Zm) => fM_nextToken_161 n σ K223) fun R0 =>
    zlet (zrd σ 273 7) fun v34 =>
    zbi (fM_byteAt σ v34) fun v36 σ35 =>
    zbi (fM_isLetter σ35 v36) fun v38 σ37 =>
    if v38 = 0 then
      K223 σ37
    else
    zlet (zrd σ37 273 7) fun v39 =>
    zlet (zrd σ37 273 8) fun v40 =>
    if 7 ≤ zw (v39 - v40) then
      zlet (zrd σ37 273 7) fun v41 =>
      zlet (zst σ37 273 7 (v41 + 1)) fun σ42 =>
      R0 σ42
    else
    zlet (zrl σ37 273 11) fun v43 =>
    zlet (zrd σ37 273 7) fun v44 =>
    zbi (fM_byteAt σ37 v44) fun v46 σ45 =>
    zlet (zsl σ45 273 11 (zlor (zlshl v43 8) v46)) fun σ47 =>
    zlet (zrd σ47 273 7) fun v48 =>
    zlet (zst σ47 273 7 (v48 + 1)) fun σ49 =>
    R0 σ49
def fM_nextToken_85 : Nat → Zm → Zr
  | 0, _ => none
  | n + 1, σ =>
    zlet (fun (σ : Zm) => fM_nextToken_85 n σ) fun R0 =>
    zlet (zrd σ 273 7) fun v56 =>
    zbi (fM_byteAt σ v56) fun v58 σ57 =>
    zbi (fM_isDigit σ57 v58) fun v60 σ59 =>
    if v60 = 0 then
      some (0, σ59)
    else
    zlet (zrd σ59 273 10) fun v61 =>
    if 100000 ≤ v61 then
      zlet (zrd σ59 273 7) fun v62 =>
      zlet (zst σ59 273 7 (v62 + 1)) fun σ63 =>
      R0 σ63
    else
    zlet (zrd σ59 273 10) fun v64 =>
    zlet (zrd σ59 273 7) fun v65 =>
    zbi (fM_byteAt σ59 v65) fun v67 σ66 =>
    zlet (zst σ66 273 10 (((10 * v64) + v67) - 48)) fun σ68 =>
    zlet (zrd σ68 273 7) fun v69 =>
    zlet (zst σ68 273 7 (v69 + 1)) fun σ70 =>
    R0 σ70
def fM_nextToken (σ : Zm) : Zr :=
  fM_nextToken_0 5000 σ fun σ11 =>
  zlet (zrd σ11 273 7) fun v12 =>
  zlet (zst σ11 273 8 v12) fun σ13 =>
  zlet (zrd σ13 273 7) fun v14 =>
  zbi (fM_byteAt σ13 v14) fun v16 σ15 =>
  if 0 ≤ v16 then
    zbi (fM_isDigit σ15 v16) fun v18 σ17 =>
    if v18 = 0 then
      zbi (fM_isLetter σ17 v16) fun v20 σ19 =>
      if v20 = 0 then
        zlet (zrd σ19 273 7) fun v21 =>
        zlet (zst σ19 273 7 (v21 + 1)) fun σ22 =>
        if v16 = 60 then
          fM_nextToken_321 v16 σ22
        else
        if v16 = 62 then
          fM_nextToken_321 v16 σ22
        else
        if v16 = 61 then
          fM_nextToken_321 v16 σ22
        else
        if v16 = 35 then
          fM_nextToken_321 v16 σ22
        else
        if v16 = 43 then
          fM_nextToken_321 v16 σ22
        else
        if v16 = 45 then
          fM_nextToken_321 v16 σ22
        else
        if v16 = 42 then
          fM_nextToken_321 v16 σ22
        else
        if v16 = 47 then
          fM_nextToken_321 v16 σ22
        else
        if v16 = 40 then
          fM_nextToken_321 v16 σ22
        else
        if v16 = 41 then
          fM_nextToken_321 v16 σ22
        else
        if ¬ v16 = 59 then
          fM_nextToken_327 v16 0 σ22
        else
        fM_nextToken_321 v16 σ22
      else
      zlet (zst σ19 273 9 2) fun σ32 =>
      zlet (zsl σ32 273 11 0) fun σ33 =>
      fM_nextToken_161 5000 σ33 fun σ50 =>
      zlet (zrd σ50 273 7) fun v51 =>
      zlet (zrd σ50 273 8) fun v52 =>
      if zw (v51 - v52) ≤ 7 then
        some (0, σ50)
      else
      zlet (zsl σ50 273 11 0) fun σ53 =>
      some (0, σ53)
    else
    zlet (zst σ17 273 9 1) fun σ54 =>
    zlet (zst σ54 273 10 0) fun σ55 =>
    fM_nextToken_85 5000 σ55
  else
  zlet (zst σ15 273 9 0) fun σ71 =>
  some (0, σ71)
def fM_w3 (σ : Zm) (x0 : Int) (x1 : Int) (x2 : Int) : Zr :=
  some (zlor (zlshl (zlor (zlshl x0 8) x1) 8) x2, σ)
def fM_w5 (σ : Zm) (x0 : Int) (x1 : Int) (x2 : Int) (x3 : Int) (x4 : Int) : Zr :=
  zbl (fM_w3 σ x0 x1 x2) fun v2 σ1 =>
  some (zlor (zlshl (zlor (zlshl v2 8) x3) 8) x4, σ1)
def fM_w4 (σ : Zm) (x0 : Int) (x1 : Int) (x2 : Int) (x3 : Int) : Zr :=
  zbl (fM_w3 σ x0 x1 x2) fun v2 σ1 =>
  some (zlor (zlshl v2 8) x3, σ1)
def fM_w6 (σ : Zm) (x0 : Int) (x1 : Int) (x2 : Int) (x3 : Int) (x4 : Int) (x5 : Int) : Zr :=
  zbl (fM_w5 σ x0 x1 x2 x3 x4) fun v2 σ1 =>
  some (zlor (zlshl v2 8) x5, σ1)
def fM_isWord (σ : Zm) (x1 : Int) : Zr :=
  zlet (zrd σ 273 9) fun v1 =>
  if ¬ v1 = 2 then
    some (0, σ)
  else
  zlet (zrl σ 273 11) fun v2 =>
  if ¬ zlc v2 x1 = 0 then
    some (0, σ)
  else
  some (1, σ)
def fM_emit (σ : Zm) (x1 : Int) (x2 : Int) : Zr :=
  zlet (zrd σ 273 12) fun v1 =>
  zlet (zrd σ 273 14) fun v2 =>
  zck (zw ((v1 + 60) + (2 * v2))) 5400 <| zlet (zst σ 276 (zw ((v1 + 60) + (2 * v2))).toNat x1) fun σ3 =>
  zlet (zrd σ3 273 12) fun v4 =>
  zlet (zrd σ3 273 14) fun v5 =>
  zck (zw (((v4 + 60) + (2 * v5)) + 1)) 5400 <| zlet (zst σ3 276 (zw (((v4 + 60) + (2 * v5)) + 1)).toNat x2) fun σ6 =>
  zlet (zrd σ6 273 14) fun v7 =>
  zlet (zst σ6 273 14 (v7 + 1)) fun σ8 =>
  some (0, σ8)
def fM_push (σ : Zm) (x1 : Int) : Zr :=
  zlet (zrd σ 273 17) fun v1 =>
  zck v1 160 <| zlet (zst σ 278 v1.toNat x1) fun σ2 =>
  zlet (zrd σ2 273 17) fun v3 =>
  zlet (zst σ2 273 17 (v3 + 1)) fun σ4 =>
  some (0, σ4)
def fM_whole_5 : Nat → Zm → Zr
  | 0, _ => none
  | n + 1, σ =>
    zlet (fun (σ : Zm) => fM_whole_5 n σ) fun R0 =>
    zlet (zrd σ 273 17) fun v2 =>
    if v2 ≤ 0 then
      some (0, σ)
    else
    zlet (zrd σ 273 17) fun v3 =>
    zck (zw (v3 - 1)) 160 <| zlet (zrd σ 278 (zw (v3 - 1)).toNat) fun v4 =>
    if ¬ v4 = 2 then
      some (0, σ)
    else
    zlet (zrd σ 273 17) fun v5 =>
    zlet (zst σ 273 17 (v5 - 1)) fun σ6 =>
    zlet (zrd σ6 273 18) fun v7 =>
    zlet (zst σ6 273 18 (v7 - 1)) fun σ8 =>
    zbv (fM_emit σ8 2 0) fun σ9 =>
    R0 σ9
def fM_whole (σ : Zm) : Zr :=
  zlet (zst σ 273 19 1) fun σ1 =>
  fM_whole_5 5000 σ1
def fM_settle_0 : Nat → Int → Zm → Zr
  | 0, _, _ => none
  | n + 1, x1, σ =>
    zlet (fun (x1 : Int) (σ : Zm) => fM_settle_0 n x1 σ) fun R0 =>
    zlet (zrd σ 273 17) fun v1 =>
    if v1 ≤ 0 then
      some (0, σ)
    else
    zlet (zrd σ 273 17) fun v2 =>
    zck (zw (v2 - 1)) 160 <| zlet (zrd σ 278 (zw (v2 - 1)).toNat) fun v3 =>
    if 40 ≤ v3 then
      some (0, σ)
    else
    zlet (zrd σ 273 17) fun v4 =>
    zck (zw (v4 - 1)) 160 <| zlet (zrd σ 278 (zw (v4 - 1)).toNat) fun v5 =>
    if v5 < x1 then
      some (0, σ)
    else
    zlet (zrd σ 273 17) fun v6 =>
    zlet (zst σ 273 17 (v6 - 1)) fun σ7 =>
    zlet (zrd σ7 273 17) fun v8 =>
    zck v8 160 <| zlet (zrd σ7 278 v8.toNat) fun v9 =>
    zbv (fM_emit σ7 v9 0) fun σ10 =>
    R0 x1 σ10
def fM_settle (σ : Zm) (x1 : Int) : Zr :=
  fM_settle_0 5000 x1 σ
def fM_ofVoices (σ : Zm) : Zr :=
  zlet (zrl σ 273 11) fun v1 =>
  zbl (fM_w3 σ 103 97 112) fun v3 σ2 =>
  if ¬ zlc v1 v3 = 0 then
    zlet (zrl σ2 273 11) fun v4 =>
    zbl (fM_w3 σ2 119 97 115) fun v6 σ5 =>
    if ¬ zlc v4 v6 = 0 then
      zlet (zrl σ5 273 11) fun v7 =>
      zbl (fM_w4 σ5 109 105 110 101) fun v9 σ8 =>
      if ¬ zlc v7 v9 = 0 then
        zlet (zrl σ8 273 11) fun v10 =>
        zbl (fM_w5 σ8 121 111 117 114 115) fun v12 σ11 =>
        if ¬ zlc v10 v12 = 0 then
          zlet (zrl σ11 273 11) fun v13 =>
          zbl (fM_w3 σ11 108 111 119) fun v15 σ14 =>
          if ¬ zlc v13 v15 = 0 then
            zlet (zrl σ14 273 11) fun v16 =>
            zbl (fM_w4 σ14 104 105 103 104) fun v18 σ17 =>
            if ¬ zlc v16 v18 = 0 then
              zlet (zrl σ17 273 11) fun v19 =>
              zbl (fM_w5 σ17 99 114 111 115 115) fun v21 σ20 =>
              if ¬ zlc v19 v21 = 0 then
                zlet (zrl σ20 273 11) fun v22 =>
                zbl (fM_w4 σ20 104 111 108 100) fun v24 σ23 =>
                if ¬ zlc v22 v24 = 0 then
                  zlet (zrl σ23 273 11) fun v25 =>
                  zbl (fM_w4 σ23 115 116 101 112) fun v27 σ26 =>
                  if ¬ zlc v25 v27 = 0 then
                    zlet (zrl σ26 273 11) fun v28 =>
                    zbl (fM_w4 σ26 108 97 115 116) fun v30 σ29 =>
                    if ¬ zlc v28 v30 = 0 then
                      zlet (zrl σ29 273 11) fun v31 =>
                      zbl (fM_w5 σ29 112 105 116 99 104) fun v33 σ32 =>
                      if ¬ zlc v31 v33 = 0 then
                        zlet (zrl σ32 273 11) fun v34 =>
                        zbl (fM_w4 σ32 114 101 115 116) fun v36 σ35 =>
                        if ¬ zlc v34 v36 = 0 then
                          zlet (zrl σ35 273 11) fun v37 =>
                          zbl (fM_w5 σ35 112 108 97 99 101) fun v39 σ38 =>
                          if ¬ zlc v37 v39 = 0 then
                            some ((-1), σ38)
                          else
                          some (12, σ38)
                        else
                        some (11, σ35)
                      else
                      some (10, σ32)
                    else
                    some (9, σ29)
                  else
                  some (8, σ26)
                else
                some (7, σ23)
              else
              some (6, σ20)
            else
            some (5, σ17)
          else
          some (4, σ14)
        else
        some (3, σ11)
      else
      some (2, σ8)
    else
    some (1, σ5)
  else
  some (0, σ2)
def fM_nameOf (σ : Zm) : Zr :=
  zlet (zrd σ 273 9) fun v1 =>
  if v1 = 2 then
    zbi (fM_ofVoices σ) fun v3 σ2 =>
    if v3 < 0 then
      zlet (zrl σ2 273 11) fun v4 =>
      zbl (fM_w6 σ2 110 117 109 98 101 114) fun v6 σ5 =>
      if ¬ zlc v4 v6 = 0 then
        zlet (zrl σ5 273 11) fun v7 =>
        zbl (fM_w6 σ5 114 117 108 105 110 103) fun v9 σ8 =>
        if ¬ zlc v7 v9 = 0 then
          zlet (zrl σ8 273 11) fun v10 =>
          zbl (fM_w3 σ8 105 110 107) fun v12 σ11 =>
          if ¬ zlc v10 v12 = 0 then
            zlet (zrl σ11 273 11) fun v13 =>
            zbl (fM_w4 σ11 115 105 122 101) fun v15 σ14 =>
            if ¬ zlc v13 v15 = 0 then
              zlet (zrl σ14 273 11) fun v16 =>
              zbl (fM_w6 σ14 110 117 109 98 101 114) fun v18 σ17 =>
              if ¬ zlc v16 (zlor (zlshl v18 8) 98) = 0 then
                zlet (zrl σ17 273 11) fun v19 =>
                zbl (fM_w6 σ17 114 117 108 105 110 103) fun v21 σ20 =>
                if ¬ zlc v19 (zlor (zlshl v21 8) 98) = 0 then
                  zlet (zrl σ20 273 11) fun v22 =>
                  zbl (fM_w4 σ20 105 110 107 98) fun v24 σ23 =>
                  if ¬ zlc v22 v24 = 0 then
                    zlet (zrl σ23 273 11) fun v25 =>
                    zbl (fM_w5 σ23 115 105 122 101 98) fun v27 σ26 =>
                    if ¬ zlc v25 v27 = 0 then
                      some ((-1), σ26)
                    else
                    some (20, σ26)
                  else
                  some (19, σ23)
                else
                some (18, σ20)
              else
              some (17, σ17)
            else
            some (16, σ14)
          else
          some (15, σ11)
        else
        some (14, σ8)
      else
      some (13, σ5)
    else
    some (v3, σ2)
  else
  some ((-1), σ)
def fM_isBarred (σ : Zm) (x1 : Int) : Zr :=
  zlet (zrd σ 273 20) fun v1 =>
  if ¬ v1 = 1 then
    zlet (zrd σ 273 20) fun v2 =>
    if ¬ v2 = 2 then
      if 13 ≤ x1 then
        some (0, σ)
      else
      some (1, σ)
    else
    zbi (fM_isIn σ x1 8 12) fun v4 σ3 =>
    if ¬ v4 = 0 then
      some (0, σ3)
    else
    some (1, σ3)
  else
  zbi (fM_isIn σ x1 0 7) fun v6 σ5 =>
  if ¬ v6 = 0 then
    some (0, σ5)
  else
  if x1 = 12 then
    some (0, σ5)
  else
  some (1, σ5)
def fM_beginOne_107 (x1 : Int) (σ : Zm) : Zr :=
  if ¬ x1 = 0 then
    zlet (zrd σ 273 18) fun v6 =>
    if ¬ v6 = 8 then
      zlet (zrd σ 273 18) fun v7 =>
      zlet (zst σ 273 18 (v7 + 1)) fun σ8 =>
      zbv (fM_push σ8 x1) fun σ9 =>
      zbv (fM_nextToken σ9) fun σ10 =>
      some (0, σ10)
    else
    some (3, σ)
  else
  some (1, σ)
def fM_beginOne (σ : Zm) : Zr :=
  zlet (zrd σ 273 9) fun v1 =>
  if ¬ v1 = 1 then
    zbi (fM_nameOf σ) fun v3 σ2 =>
    if v3 < 0 then
      zlet (zrd σ2 273 9) fun v4 =>
      if ¬ v4 = 40 then
        zlet (zrd σ2 273 9) fun v5 =>
        if ¬ v5 = 45 then
          fM_beginOne_107 0 σ2
        else
        fM_beginOne_107 2 σ2
      else
      fM_beginOne_107 40 σ2
    else
    zbi (fM_nameOf σ2) fun v12 σ11 =>
    zbi (fM_isBarred σ11 v12) fun v14 σ13 =>
    if v14 = 0 then
      zbi (fM_nameOf σ13) fun v16 σ15 =>
      zbv (fM_emit σ15 1 v16) fun σ17 =>
      zbv (fM_nextToken σ17) fun σ18 =>
      zbv (fM_whole σ18) fun σ19 =>
      some (0, σ19)
    else
    some (4, σ13)
  else
  zlet (zrd σ 273 10) fun v20 =>
  if v20 ≤ 999 then
    zlet (zrd σ 273 10) fun v21 =>
    zbv (fM_emit σ 0 v21) fun σ22 =>
    zbv (fM_nextToken σ22) fun σ23 =>
    zbv (fM_whole σ23) fun σ24 =>
    some (0, σ24)
  else
  some (2, σ)
def fM_hasParen_2 : Nat → Int → Zm → Zr
  | 0, _, _ => none
  | n + 1, x1, σ =>
    zlet (fun (x1 : Int) (σ : Zm) => fM_hasParen_2 n x1 σ) fun R0 =>
    zlet (zrd σ 273 17) fun v1 =>
    if v1 ≤ x1 then
      some (0, σ)
    else
    zck x1 160 <| zlet (zrd σ 278 x1.toNat) fun v2 =>
    if ¬ v2 = 40 then
      R0 (zw (x1 + 1)) σ
    else
    some (1, σ)
def fM_hasParen (σ : Zm) : Zr :=
  fM_hasParen_2 5000 0 σ
def fM_goesOn (σ : Zm) : Zr :=
  zlet (zrd σ 273 9) fun v1 =>
  if v1 = 43 then
    some (1, σ)
  else
  zlet (zrd σ 273 9) fun v2 =>
  if v2 = 45 then
    some (1, σ)
  else
  zlet (zrd σ 273 9) fun v3 =>
  if v3 = 42 then
    some (1, σ)
  else
  zlet (zrd σ 273 9) fun v4 =>
  if v4 = 47 then
    some (1, σ)
  else
  zlet (zrd σ 273 9) fun v5 =>
  if ¬ v5 = 41 then
    some (0, σ)
  else
  zbi (fM_hasParen σ) fun v7 σ6 =>
  if v7 = 0 then
    some (0, σ6)
  else
  some (1, σ6)
def fM_behindOne_17 (x1 : Int) (σ : Zm) : Zr :=
  zbv (fM_settle σ 3) fun σ2 =>
  if ¬ x1 = 43 then
    zbv (fM_push σ2 4) fun σ3 =>
    zlet (zst σ3 273 19 0) fun σ4 =>
    zbv (fM_nextToken σ4) fun σ5 =>
    some (0, σ5)
  else
  zbv (fM_push σ2 3) fun σ6 =>
  zlet (zst σ6 273 19 0) fun σ7 =>
  zbv (fM_nextToken σ7) fun σ8 =>
  some (0, σ8)
def fM_behindOne_57 (x1 : Int) (σ : Zm) : Zr :=
  zbv (fM_settle σ 5) fun σ9 =>
  if ¬ x1 = 42 then
    zbv (fM_push σ9 6) fun σ10 =>
    zlet (zst σ10 273 19 0) fun σ11 =>
    zbv (fM_nextToken σ11) fun σ12 =>
    some (0, σ12)
  else
  zbv (fM_push σ9 5) fun σ13 =>
  zlet (zst σ13 273 19 0) fun σ14 =>
  zbv (fM_nextToken σ14) fun σ15 =>
  some (0, σ15)
def fM_behindOne (σ : Zm) : Zr :=
  zlet (zrd σ 273 9) fun v1 =>
  if v1 = 43 then
    fM_behindOne_17 v1 σ
  else
  if ¬ v1 = 45 then
    if v1 = 42 then
      fM_behindOne_57 v1 σ
    else
    if ¬ v1 = 47 then
      zbv (fM_settle σ 3) fun σ16 =>
      zlet (zrd σ16 273 17) fun v17 =>
      zlet (zst σ16 273 17 (v17 - 1)) fun σ18 =>
      zlet (zrd σ18 273 18) fun v19 =>
      zlet (zst σ18 273 18 (v19 - 1)) fun σ20 =>
      zbv (fM_whole σ20) fun σ21 =>
      zbv (fM_nextToken σ21) fun σ22 =>
      some (0, σ22)
    else
    fM_behindOne_57 v1 σ
  else
  fM_behindOne_17 v1 σ
def fM_summed_24 (R0 : Zm → Zr) (K52 : Zm → Zr) (σ : Zm) : Zr :=
  zlet (zrd σ 273 19) fun v4 =>
  if v4 = 0 then
    zbi (fM_beginOne σ) fun v6 σ5 =>
    if v6 = 0 then
      R0 σ5
    else
    some (v6, σ5)
  else
  zbi (fM_behindOne σ) fun v8 σ7 =>
  if v8 = 0 then
    R0 σ7
  else
  some (v8, σ7)
def fM_summed_10 : Nat → Zm → (Zm → Zr) → Zr
  | 0, _, _ => none
  | n + 1, σ, K52 =>
    zlet (fun (σ : Zm) => fM_summed_10 n σ K52) fun R0 =>
    zlet (zrd σ 273 19) fun v3 =>
    if v3 = 0 then
      fM_summed_24 R0 K52 σ
    else
    zbi (fM_goesOn σ) fun v10 σ9 =>
    if v10 = 0 then
      K52 σ9
    else
    fM_summed_24 R0 K52 σ9
def fM_summed (σ : Zm) : Zr :=
  zlet (zst σ 273 17 0) fun σ1 =>
  zlet (zst σ1 273 19 0) fun σ2 =>
  fM_summed_10 5000 σ2 fun σ11 =>
  zbv (fM_settle σ11 3) fun σ12 =>
  zlet (zrd σ12 273 17) fun v13 =>
  if v13 ≤ 0 then
    some (0, σ12)
  else
  some (1, σ12)
def fM_compareOf (σ : Zm) : Zr :=
  zlet (zrd σ 273 9) fun v1 =>
  if ¬ v1 = 60 then
    zlet (zrd σ 273 9) fun v2 =>
    if ¬ v2 = 4 then
      zlet (zrd σ 273 9) fun v3 =>
      if ¬ v3 = 62 then
        zlet (zrd σ 273 9) fun v4 =>
        if ¬ v4 = 5 then
          zlet (zrd σ 273 9) fun v5 =>
          if ¬ v5 = 61 then
            zlet (zrd σ 273 9) fun v6 =>
            if ¬ v6 = 35 then
              some ((-1), σ)
            else
            some (15, σ)
          else
          some (14, σ)
        else
        some (13, σ)
      else
      some (12, σ)
    else
    some (11, σ)
  else
  some (10, σ)
def fM_asks_2 : Nat → Int → Zm → (Int → Zm → Zr) → Zr
  | 0, _, _, _ => none
  | n + 1, x1, σ, K49 =>
    zlet (fun (x1 : Int) (σ : Zm) => fM_asks_2 n x1 σ K49) fun R0 =>
    zbl (fM_w3 σ 110 111 116) fun v2 σ1 =>
    zbi (fM_isWord σ1 v2) fun v4 σ3 =>
    if v4 = 0 then
      K49 x1 σ3
    else
    zlet (zrd σ3 273 18) fun v5 =>
    if ¬ v5 = 8 then
      zlet (zrd σ3 273 18) fun v6 =>
      zlet (zst σ3 273 18 (v6 + 1)) fun σ7 =>
      zbv (fM_nextToken σ7) fun σ8 =>
      R0 (zw (x1 + 1)) σ8
    else
    some (3, σ3)
def fM_asks_105 : Nat → Int → Int → Zm → Zr
  | 0, _, _, _ => none
  | n + 1, x1, x4, σ =>
    zlet (fun (x1 : Int) (x4 : Int) (σ : Zm) => fM_asks_105 n x1 x4 σ) fun R0 =>
    if x1 ≤ x4 then
      some (0, σ)
    else
    zbv (fM_emit σ 20 0) fun σ21 =>
    R0 x1 (zw (x4 + 1)) σ21
def fM_asks (σ : Zm) : Zr :=
  fM_asks_2 5000 0 σ fun y10 σ9 =>
  zbi (fM_summed σ9) fun v12 σ11 =>
  if v12 = 0 then
    zbi (fM_compareOf σ11) fun v14 σ13 =>
    if 0 ≤ v14 then
      zbv (fM_nextToken σ13) fun σ15 =>
      zbi (fM_summed σ15) fun v17 σ16 =>
      if v17 = 0 then
        zbv (fM_emit σ16 v14 0) fun σ18 =>
        zlet (zrd σ18 273 18) fun v19 =>
        zlet (zst σ18 273 18 (v19 - y10)) fun σ20 =>
        fM_asks_105 5000 y10 0 σ20
      else
      some (v17, σ16)
    else
    some (1, σ13)
  else
  some (v12, σ11)
def fM_either_93 (R0 : Int → Int → Int → Zm → Zr) (x1 : Int) (x2 : Int) (x5 : Int) (σ : Zm) : Zr :=
  if ¬ x1 = 0 then
    if (1 : Int) = 0 then
      R0 x1 x2 1 σ
    else
    zbv (fM_nextToken σ) fun σ8 =>
    R0 x1 x2 1 σ8
  else
  if x5 = 0 then
    if (0 : Int) = 0 then
      R0 x1 x2 0 σ
    else
    zbv (fM_nextToken σ) fun σ9 =>
    R0 x1 x2 0 σ9
  else
  if (1 : Int) = 0 then
    R0 x1 x2 1 σ
  else
  zbv (fM_nextToken σ) fun σ10 =>
  R0 x1 x2 1 σ10
def fM_either_90 (R0 : Int → Int → Int → Zm → Zr) (x1 : Int) (x5 : Int) (σ : Zm) : Zr :=
  fM_either_93 R0 x1 x5 x5 σ
def fM_either_75 (R0 : Int → Int → Int → Zm → Zr) (x1 : Int) (x2 : Int) (x5 : Int) (σ : Zm) : Zr :=
  if ¬ x1 = 0 then
    fM_either_93 R0 x1 x2 x5 σ
  else
  if x2 = 0 then
    fM_either_90 R0 x1 x5 σ
  else
  zbv (fM_emit σ 22 0) fun σ11 =>
  fM_either_90 R0 x1 x5 σ11
def fM_either_72 (R0 : Int → Int → Int → Zm → Zr) (x1 : Int) (x2 : Int) (σ : Zm) : Zr :=
  fM_either_75 R0 x1 x2 0 σ
def fM_either_35 (R0 : Int → Int → Int → Zm → Zr) (x2 : Int) (σ : Zm) : Zr :=
  zbl (fM_w3 σ 97 110 100) fun v4 σ3 =>
  zbi (fM_isWord σ3 v4) fun v6 σ5 =>
  zlet (zrd σ5 273 9) fun v7 =>
  if ¬ v7 = 2 then
    fM_either_72 R0 v6 x2 σ5
  else
  zlet (zrl σ5 273 11) fun v12 =>
  if ¬ zlc v12 28530 = 0 then
    fM_either_72 R0 v6 x2 σ5
  else
  fM_either_75 R0 v6 x2 1 σ5
def fM_either_6 : Nat → Int → Int → Int → Zm → Zr
  | 0, _, _, _, _ => none
  | n + 1, x1, x2, x3, σ =>
    zlet (fun (x1 : Int) (x2 : Int) (x3 : Int) (σ : Zm) => fM_either_6 n x1 x2 x3 σ) fun R0 =>
    if x3 = 0 then
      some (0, σ)
    else
    zbi (fM_asks σ) fun v2 σ1 =>
    if v2 = 0 then
      if x1 = 0 then
        fM_either_35 R0 x2 σ1
      else
      zbv (fM_emit σ1 21 0) fun σ13 =>
      fM_either_35 R0 x2 σ13
    else
    some (v2, σ1)
def fM_either (σ : Zm) : Zr :=
  fM_either_6 5000 0 0 1 σ
def fM_sortOf (σ : Zm) : Zr :=
  zbl (fM_w4 σ 112 97 105 114) fun v2 σ1 =>
  zbi (fM_isWord σ1 v2) fun v4 σ3 =>
  if v4 = 0 then
    zbl (fM_w4 σ3 108 105 110 101) fun v6 σ5 =>
    zbi (fM_isWord σ5 v6) fun v8 σ7 =>
    if v8 = 0 then
      zbl (fM_w5 σ7 97 104 101 97 100) fun v10 σ9 =>
      zbi (fM_isWord σ9 v10) fun v12 σ11 =>
      if v12 = 0 then
        zbl (fM_w6 σ11 98 101 115 105 100 101) fun v14 σ13 =>
        zbi (fM_isWord σ13 v14) fun v16 σ15 =>
        if v16 = 0 then
          some (0, σ15)
        else
        some (4, σ15)
      else
      some (3, σ11)
    else
    some (2, σ7)
  else
  some (1, σ3)
def fM_priced (σ : Zm) (x1 : Int) : Zr :=
  zlet (zrd σ 273 14) fun v1 =>
  zck (zw (x1 + 3)) 5400 <| zlet (zst σ 276 (zw (x1 + 3)).toNat v1) fun σ2 =>
  zbi (fM_summed σ2) fun v4 σ3 =>
  if v4 = 0 then
    zlet (zrd σ3 273 14) fun v5 =>
    zck (zw (x1 + 4)) 5400 <| zlet (zst σ3 276 (zw (x1 + 4)).toNat v5) fun σ6 =>
    zbl (fM_w4 σ6 119 104 101 110) fun v8 σ7 =>
    zbi (fM_isWord σ7 v8) fun v10 σ9 =>
    if ¬ v10 = 0 then
      zbv (fM_nextToken σ9) fun σ11 =>
      some (0, σ11)
    else
    some (1, σ9)
  else
  some (v4, σ3)
def fM_clause_72 (x3 : Int) (x4 : Int) (σ : Zm) : Zr :=
  if x4 = 0 then
    zlet (zrd σ 273 14) fun v10 =>
    zck (zw (x3 + 1)) 5400 <| zlet (zst σ 276 (zw (x3 + 1)).toNat v10) fun σ11 =>
    zbi (fM_either σ11) fun v13 σ12 =>
    if v13 = 0 then
      zlet (zrd σ12 273 14) fun v14 =>
      zck (zw (x3 + 2)) 5400 <| zlet (zst σ12 276 (zw (x3 + 2)).toNat v14) fun σ15 =>
      zlet (zrd σ15 273 12) fun v16 =>
      zck v16 5400 <| zlet (zrd σ15 276 v16.toNat) fun v17 =>
      zck v16 5400 <| zlet (zst σ15 276 v16.toNat (v17 + 1)) fun σ18 =>
      zlet (zrd σ18 273 9) fun v19 =>
      if v19 = 59 then
        zbv (fM_nextToken σ18) fun σ20 =>
        some (0, σ20)
      else
      some (1, σ18)
    else
    some (v13, σ12)
  else
  some (x4, σ)
def fM_clause (σ : Zm) : Zr :=
  zbi (fM_sortOf σ) fun v2 σ1 =>
  if ¬ v2 = 0 then
    zlet (zrd σ1 273 12) fun v3 =>
    zck v3 5400 <| zlet (zrd σ1 276 v3.toNat) fun v4 =>
    if ¬ v4 = 10 then
      zlet (zst σ1 273 20 v2) fun σ5 =>
      zbv (fM_nextToken σ5) fun σ6 =>
      zlet (zrd σ6 273 12) fun v7 =>
      zlet (zw ((v7 + 1) + (5 * v4))) fun v8 =>
      zck v8 5400 <| zlet (zst σ6 276 v8.toNat v2) fun σ9 =>
      if 2 < v2 then
        fM_clause_72 v8 0 σ9
      else
      zbi (fM_priced σ9 v8) fun v22 σ21 =>
      fM_clause_72 v8 v22 σ21
    else
    some (5, σ1)
  else
  some (1, σ1)
def fM_readText_43 : Nat → Zm → Zr
  | 0, _ => none
  | n + 1, σ =>
    zlet (fun (σ : Zm) => fM_readText_43 n σ) fun R0 =>
    zlet (zrd σ 273 9) fun v9 =>
    if v9 = 0 then
      some (0, σ)
    else
    zbi (fM_clause σ) fun v11 σ10 =>
    if v11 = 0 then
      R0 σ10
    else
    some (v11, σ10)
def fM_readText (σ : Zm) : Zr :=
  zck 1 700 <| zlet (zrd σ 274 1) fun v1 =>
  zlet (zst σ 273 12 (900 * v1)) fun σ2 =>
  zlet (zrd σ2 273 12) fun v3 =>
  zck v3 5400 <| zlet (zst σ2 276 v3.toNat 0) fun σ4 =>
  zlet (zst σ4 273 14 0) fun σ5 =>
  zlet (zst σ5 273 18 0) fun σ6 =>
  zlet (zst σ6 273 7 0) fun σ7 =>
  zbv (fM_nextToken σ7) fun σ8 =>
  fM_readText_43 5000 σ8
def fM_text_40 (σ : Zm) : Zr :=
  zlet (zst σ 273 4 0) fun σ8 =>
  zlet (zrd σ8 273 5) fun v9 =>
  if v9 = 0 then
    zck 1 700 <| zlet (zrd σ8 274 1) fun v10 =>
    zck (zw (690 + v10)) 700 <| zlet (zst σ8 274 (zw (690 + v10)).toNat 1) fun σ11 =>
    zck 1 700 <| zlet (zrd σ11 274 1) fun v12 =>
    zck 1 700 <| zlet (zst σ11 274 1 (v12 + 1)) fun σ13 =>
    zck 1 700 <| zlet (zrd σ13 274 1) fun v14 =>
    some (v14 - 1, σ13)
  else
  some ((-1), σ8)
def fM_text (σ : Zm) : Zr :=
  zck 1 700 <| zlet (zrd σ 274 1) fun v1 =>
  if ¬ v1 = 6 then
    zbi (fM_readText σ) fun v3 σ2 =>
    zlet (zst σ2 273 5 v3) fun σ4 =>
    zlet (zrd σ4 273 5) fun v5 =>
    if ¬ v5 = 0 then
      zlet (zrd σ4 273 8) fun v6 =>
      zlet (zst σ4 273 6 v6) fun σ7 =>
      fM_text_40 σ7
    else
    zlet (zst σ4 273 6 (-1)) fun σ15 =>
    fM_text_40 σ15
  else
  some ((-1), σ)
def fM_fault (σ : Zm) (x1 : Int) : Zr :=
  if ¬ x1 = 0 then
    if ¬ x1 = 1 then
      some ((-1), σ)
    else
    zlet (zrd σ 273 6) fun v1 =>
    some (v1, σ)
  else
  zlet (zrd σ 273 5) fun v2 =>
  some (v2, σ)
def fM_clip (σ : Zm) (x0 : Int) : Zr :=
  if zlc x0 1000000 ≤ 0 then
    if 0 ≤ zlc x0 (-1000000) then
      some (x0, σ)
    else
    some ((-1000000), σ)
  else
  some (1000000, σ)
def fM_two (σ : Zm) (x0 : Int) (x1 : Int) (x3 : Int) : Zr :=
  if x0 = 3 then
    zbl (fM_clip σ (zx (x1 + x3))) fun v3 σ2 =>
    some (v3, σ2)
  else
  if x0 = 4 then
    zbl (fM_clip σ (zx (x1 - x3))) fun v6 σ5 =>
    some (v6, σ5)
  else
  if x0 = 5 then
    zbl (fM_clip σ (zx (x1 * x3))) fun v9 σ8 =>
    some (v9, σ8)
  else
  if ¬ zlc x3 0 = 0 then
    zdv x3 <|
    zbl (fM_clip σ (zx (Int.tdiv x1 x3))) fun v11 σ10 =>
    some (v11, σ10)
  else
  some (0, σ)
def fM_isAsked (σ : Zm) (x0 : Int) (x1 : Int) (x3 : Int) : Zr :=
  if ¬ x0 = 10 then
    if ¬ x0 = 11 then
      if ¬ x0 = 12 then
        if ¬ x0 = 13 then
          if ¬ x0 = 14 then
            if zlc x1 x3 = 0 then
              some (0, σ)
            else
            some (1, σ)
          else
          if ¬ zlc x1 x3 = 0 then
            some (0, σ)
          else
          some (1, σ)
        else
        if zlc x1 x3 < 0 then
          some (0, σ)
        else
        some (1, σ)
      else
      if zlc x1 x3 ≤ 0 then
        some (0, σ)
      else
      some (1, σ)
    else
    if 0 < zlc x1 x3 then
      some (0, σ)
    else
    some (1, σ)
  else
  if 0 ≤ zlc x1 x3 then
    some (0, σ)
  else
  some (1, σ)
def fM_work_19 : Nat → Int → Int → Int → Int → Int → Zm → Zr
  | 0, _, _, _, _, _, _ => none
  | n + 1, x3, x4, x5, x6, x7, σ =>
    zlet (fun (x3 : Int) (x4 : Int) (x5 : Int) (x6 : Int) (x7 : Int) (σ : Zm) => fM_work_19 n x3 x4 x5 x6 x7 σ) fun R0 =>
    if x3 ≤ x7 then
      some (0, σ)
    else
    zck (zw (x4 + (2 * x7))) 5400 <| zlet (zrd σ 276 (zw (x4 + (2 * x7))).toNat) fun v2 =>
    zck (zw ((x4 + (2 * x7)) + 1)) 5400 <| zlet (zrd σ 276 (zw ((x4 + (2 * x7)) + 1)).toNat) fun v3 =>
    if 1 < v2 then
      if ¬ v2 = 2 then
        if 10 ≤ v2 then
          if 20 ≤ v2 then
            if ¬ v2 = 20 then
              if ¬ v2 = 21 then
                zck (zw ((x6 + (-1)) - 1)) 330 <| zlet (zrd σ 281 (zw ((x6 + (-1)) - 1)).toNat) fun v4 =>
                if ¬ v4 = 0 then
                  zck (zw ((x6 + (-1)) - 1)) 330 <| zlet (zst σ 281 (zw ((x6 + (-1)) - 1)).toNat 1) fun σ5 =>
                  R0 x3 x4 x5 (zw (x6 + (-1))) (zw (x7 + 1)) σ5
                else
                zck (zw (x6 + (-1))) 330 <| zlet (zrd σ 281 (zw (x6 + (-1))).toNat) fun v6 =>
                if v6 = 0 then
                  zck (zw ((x6 + (-1)) - 1)) 330 <| zlet (zst σ 281 (zw ((x6 + (-1)) - 1)).toNat 0) fun σ7 =>
                  R0 x3 x4 x5 (zw (x6 + (-1))) (zw (x7 + 1)) σ7
                else
                zck (zw ((x6 + (-1)) - 1)) 330 <| zlet (zst σ 281 (zw ((x6 + (-1)) - 1)).toNat 1) fun σ8 =>
                R0 x3 x4 x5 (zw (x6 + (-1))) (zw (x7 + 1)) σ8
              else
              zck (zw ((x6 + (-1)) - 1)) 330 <| zlet (zrd σ 281 (zw ((x6 + (-1)) - 1)).toNat) fun v9 =>
              if v9 = 0 then
                zck (zw ((x6 + (-1)) - 1)) 330 <| zlet (zst σ 281 (zw ((x6 + (-1)) - 1)).toNat 0) fun σ10 =>
                R0 x3 x4 x5 (zw (x6 + (-1))) (zw (x7 + 1)) σ10
              else
              zck (zw (x6 + (-1))) 330 <| zlet (zrd σ 281 (zw (x6 + (-1))).toNat) fun v11 =>
              if v11 = 0 then
                zck (zw ((x6 + (-1)) - 1)) 330 <| zlet (zst σ 281 (zw ((x6 + (-1)) - 1)).toNat 0) fun σ12 =>
                R0 x3 x4 x5 (zw (x6 + (-1))) (zw (x7 + 1)) σ12
              else
              zck (zw ((x6 + (-1)) - 1)) 330 <| zlet (zst σ 281 (zw ((x6 + (-1)) - 1)).toNat 1) fun σ13 =>
              R0 x3 x4 x5 (zw (x6 + (-1))) (zw (x7 + 1)) σ13
            else
            zck (zw (x6 - 1)) 330 <| zlet (zrd σ 281 (zw (x6 - 1)).toNat) fun v14 =>
            if ¬ v14 = 0 then
              zck (zw (x6 - 1)) 330 <| zlet (zst σ 281 (zw (x6 - 1)).toNat 0) fun σ15 =>
              R0 x3 x4 x5 x6 (zw (x7 + 1)) σ15
            else
            zck (zw (x6 - 1)) 330 <| zlet (zst σ 281 (zw (x6 - 1)).toNat 1) fun σ16 =>
            R0 x3 x4 x5 x6 (zw (x7 + 1)) σ16
          else
          zck (zw (x5 + (-2))) 330 <| zlet (zrl σ 280 (zw (x5 + (-2))).toNat) fun v17 =>
          zck (zw ((x5 + (-2)) + 1)) 330 <| zlet (zrl σ 280 (zw ((x5 + (-2)) + 1)).toNat) fun v18 =>
          zbi (fM_isAsked σ v2 v17 v18) fun v20 σ19 =>
          zck x6 330 <| zlet (zst σ19 281 x6.toNat (zb v20)) fun σ21 =>
          R0 x3 x4 (zw (x5 + (-2))) (zw (x6 + 1)) (zw (x7 + 1)) σ21
        else
        zck (zw ((x5 + (-1)) - 1)) 330 <| zlet (zrl σ 280 (zw ((x5 + (-1)) - 1)).toNat) fun v22 =>
        zck (zw (x5 + (-1))) 330 <| zlet (zrl σ 280 (zw (x5 + (-1))).toNat) fun v23 =>
        zbl (fM_two σ v2 v22 v23) fun v25 σ24 =>
        zck (zw ((x5 + (-1)) - 1)) 330 <| zlet (zsl σ24 280 (zw ((x5 + (-1)) - 1)).toNat v25) fun σ26 =>
        R0 x3 x4 (zw (x5 + (-1))) x6 (zw (x7 + 1)) σ26
      else
      zck (zw (x5 - 1)) 330 <| zlet (zrl σ 280 (zw (x5 - 1)).toNat) fun v27 =>
      zck (zw (x5 - 1)) 330 <| zlet (zsl σ 280 (zw (x5 - 1)).toNat (-v27)) fun σ28 =>
      R0 x3 x4 x5 x6 (zw (x7 + 1)) σ28
    else
    if ¬ v2 = 0 then
      zck v3 21 <| zlet (zrd σ 279 v3.toNat) fun v29 =>
      zck x5 330 <| zlet (zsl σ 280 x5.toNat v29) fun σ30 =>
      R0 x3 x4 (zw (x5 + 1)) x6 (zw (x7 + 1)) σ30
    else
    zck x5 330 <| zlet (zsl σ 280 x5.toNat v3) fun σ31 =>
    R0 x3 x4 (zw (x5 + 1)) x6 (zw (x7 + 1)) σ31
def fM_work (σ : Zm) (x1 : Int) (x2 : Int) (x3 : Int) : Zr :=
  zlet (zw ((900 * x1) + 60)) fun v1 =>
  fM_work_19 5000 x3 v1 0 0 x2 σ
def fM_clauses (σ : Zm) (x1 : Int) : Zr :=
  zck (zw (900 * x1)) 5400 <| zlet (zrd σ 276 (zw (900 * x1)).toNat) fun v1 =>
  some (v1, σ)
def fM_clauseAt (σ : Zm) (x0 : Int) (x1 : Int) : Zr :=
  some (((900 * x0) + 1) + (5 * x1), σ)
def fM_isSo (σ : Zm) (x1 : Int) (x2 : Int) : Zr :=
  zbi (fM_clauseAt σ x1 x2) fun v2 σ1 =>
  zck (zw (v2 + 1)) 5400 <| zlet (zrd σ1 276 (zw (v2 + 1)).toNat) fun v3 =>
  zck (zw (v2 + 2)) 5400 <| zlet (zrd σ1 276 (zw (v2 + 2)).toNat) fun v4 =>
  zbv (fM_work σ1 x1 v3 v4) fun σ5 =>
  zck 0 330 <| zlet (zrd σ5 281 0) fun v6 =>
  some (zb v6, σ5)
def fM_priceAt (σ : Zm) (x1 : Int) (x2 : Int) : Zr :=
  zbi (fM_clauseAt σ x1 x2) fun v2 σ1 =>
  zck (zw (v2 + 3)) 5400 <| zlet (zrd σ1 276 (zw (v2 + 3)).toNat) fun v3 =>
  zck (zw (v2 + 4)) 5400 <| zlet (zrd σ1 276 (zw (v2 + 4)).toNat) fun v4 =>
  zbv (fM_work σ1 x1 v3 v4) fun σ5 =>
  zck 0 330 <| zlet (zrl σ5 280 0) fun v6 =>
  if 0 ≤ zlc v6 0 then
    zck 0 330 <| zlet (zrl σ5 280 0) fun v7 =>
    if zlc v7 999 ≤ 0 then
      zck 0 330 <| zlet (zrl σ5 280 0) fun v8 =>
      some (v8, σ5)
    else
    some (999, σ5)
  else
  some (0, σ5)
def fM_isText (σ : Zm) (x1 : Int) : Zr :=
  zck 1 700 <| zlet (zrd σ 274 1) fun v1 =>
  zbi (fM_isIn σ x1 0 (zw (v1 - 1))) fun v3 σ2 =>
  some (zb v3, σ2)
def fM_clearSheet_2 : Nat → Int → Zm → Zr
  | 0, _, _ => none
  | n + 1, x1, σ =>
    zlet (fun (x1 : Int) (σ : Zm) => fM_clearSheet_2 n x1 σ) fun R0 =>
    if 128 ≤ x1 then
      some (0, σ)
    else
    zck x1 128 <| zlet (zst σ 282 x1.toNat (-1000)) fun σ1 =>
    zck x1 128 <| zlet (zst σ1 283 x1.toNat 0) fun σ2 =>
    R0 (zw (x1 + 1)) σ2
def fM_clearSheet (σ : Zm) : Zr :=
  fM_clearSheet_2 5000 0 σ
def fM_layPiece_45 (R0 : Int → Int → Zm → Zr) (x1 : Int) (x2 : Int) (x3 : Int) (σ : Zm) : Zr :=
  if x3 < 0 then
    zck x2 128 <| zlet (zst σ 283 x2.toNat 0) fun σ3 =>
    R0 x1 (zw (x2 + 1)) σ3
  else
  if 100 ≤ x3 then
    zck x2 128 <| zlet (zst σ 283 x2.toNat 0) fun σ4 =>
    R0 x1 (zw (x2 + 1)) σ4
  else
  zck x2 128 <| zlet (zst σ 283 x2.toNat 1) fun σ5 =>
  R0 x1 (zw (x2 + 1)) σ5
def fM_layPiece_2 : Nat → Int → Int → Zm → Zr
  | 0, _, _, _ => none
  | n + 1, x1, x2, σ =>
    zlet (fun (x1 : Int) (x2 : Int) (σ : Zm) => fM_layPiece_2 n x1 x2 σ) fun R0 =>
    if 128 ≤ x2 then
      some (0, σ)
    else
    zck (zw ((10 + (128 * x1)) + x2)) 700 <| zlet (zrd σ 274 (zw ((10 + (128 * x1)) + x2)).toNat) fun v1 =>
    if 0 ≤ v1 then
      zck x2 128 <| zlet (zst σ 282 x2.toNat (Int.tmod v1 100)) fun σ2 =>
      fM_layPiece_45 R0 x1 x2 v1 σ2
    else
    zck x2 128 <| zlet (zst σ 282 x2.toNat (-1000)) fun σ6 =>
    fM_layPiece_45 R0 x1 x2 v1 σ6
def fM_layPiece (σ : Zm) (x1 : Int) : Zr :=
  fM_layPiece_2 5000 x1 0 σ
def fM_sounds (σ : Zm) (x1 : Int) (x2 : Int) : Zr :=
  if x2 < 0 then
    some (0, σ)
  else
  zck (zw ((32 * x1) + x2)) 128 <| zlet (zrd σ 282 (zw ((32 * x1) + x2)).toNat) fun v1 =>
  if v1 = (-1000) then
    some (0, σ)
  else
  some (1, σ)
def fM_pitchAt (σ : Zm) (x1 : Int) (x2 : Int) : Zr :=
  zck (zw ((32 * x1) + x2)) 128 <| zlet (zrd σ 282 (zw ((32 * x1) + x2)).toNat) fun v1 =>
  some (v1, σ)
def fM_beginsAt (σ : Zm) (x1 : Int) (x2 : Int) : Zr :=
  zck (zw ((32 * x1) + x2)) 128 <| zlet (zrd σ 283 (zw ((32 * x1) + x2)).toNat) fun v1 =>
  some (zb v1, σ)
def fM_moves (σ : Zm) (x1 : Int) (x2 : Int) : Zr :=
  zbi (fM_beginsAt σ x1 x2) fun v2 σ1 =>
  if v2 = 0 then
    some (0, σ1)
  else
  zbi (fM_sounds σ1 x1 (zw (x2 - 1))) fun v4 σ3 =>
  if v4 = 0 then
    some (0, σ3)
  else
  zbi (fM_pitchAt σ3 x1 x2) fun v6 σ5 =>
  zbi (fM_pitchAt σ5 x1 (zw (x2 - 1))) fun v8 σ7 =>
  some (v6 - v8, σ7)
def fM_namePair_195 (x3 : Int) (σ : Zm) : Zr :=
  zck 0 700 <| zlet (zrd σ 274 0) fun v23 =>
  zdv v23 <|
  zck 12 21 <| zlet (zst σ 279 12 (Int.tmod x3 v23)) fun σ24 =>
  some (0, σ24)
def fM_namePair_165 (x1 : Int) (x2 : Int) (x3 : Int) (σ : Zm) : Zr :=
  zbi (fM_beginsAt σ x1 x3) fun v21 σ20 =>
  if ¬ v21 = 0 then
    zck 7 21 <| zlet (zst σ20 279 7 0) fun σ22 =>
    fM_namePair_195 x3 σ22
  else
  zbi (fM_beginsAt σ20 x2 x3) fun v26 σ25 =>
  if v26 = 0 then
    zck 7 21 <| zlet (zst σ25 279 7 1) fun σ27 =>
    fM_namePair_195 x3 σ27
  else
  zck 7 21 <| zlet (zst σ25 279 7 0) fun σ28 =>
  fM_namePair_195 x3 σ28
def fM_namePair_146 (x1 : Int) (x2 : Int) (x3 : Int) (x4 : Int) (x5 : Int) (σ : Zm) : Zr :=
  if x5 ≤ x4 then
    zck 6 21 <| zlet (zst σ 279 6 0) fun σ19 =>
    fM_namePair_165 x1 x2 x3 σ19
  else
  zck 6 21 <| zlet (zst σ 279 6 1) fun σ29 =>
  fM_namePair_165 x1 x2 x3 σ29
def fM_namePair_126 (x1 : Int) (x2 : Int) (x3 : Int) (x4 : Int) (x5 : Int) (σ : Zm) : Zr :=
  if x4 ≤ x5 then
    zck 5 21 <| zlet (zst σ 279 5 x5) fun σ18 =>
    fM_namePair_146 x1 x2 x3 x4 x5 σ18
  else
  zck 5 21 <| zlet (zst σ 279 5 x4) fun σ30 =>
  fM_namePair_146 x1 x2 x3 x4 x5 σ30
def fM_namePair_82 (x1 : Int) (x2 : Int) (x3 : Int) (x4 : Int) (x5 : Int) (σ : Zm) : Zr :=
  zbi (fM_moves σ x1 x3) fun v12 σ11 =>
  zck 2 21 <| zlet (zst σ11 279 2 v12) fun σ13 =>
  zbi (fM_moves σ13 x2 x3) fun v15 σ14 =>
  zck 3 21 <| zlet (zst σ14 279 3 v15) fun σ16 =>
  if x5 ≤ x4 then
    zck 4 21 <| zlet (zst σ16 279 4 x5) fun σ17 =>
    fM_namePair_126 x1 x2 x3 x4 x5 σ17
  else
  zck 4 21 <| zlet (zst σ16 279 4 x4) fun σ31 =>
  fM_namePair_126 x1 x2 x3 x4 x5 σ31
def fM_namePair (σ : Zm) (x1 : Int) (x2 : Int) (x3 : Int) : Zr :=
  zbi (fM_pitchAt σ x1 x3) fun v2 σ1 =>
  zbi (fM_pitchAt σ1 x2 x3) fun v4 σ3 =>
  zbi (fM_abs σ3 (zw (v2 - v4))) fun v6 σ5 =>
  zck 0 21 <| zlet (zst σ5 279 0 v6) fun σ7 =>
  zbi (fM_sounds σ7 x1 (zw (x3 - 1))) fun v9 σ8 =>
  if v9 = 0 then
    zck 1 21 <| zlet (zst σ8 279 1 (-1)) fun σ10 =>
    fM_namePair_82 x1 x2 x3 v2 v4 σ10
  else
  zbi (fM_sounds σ8 x2 (zw (x3 - 1))) fun v33 σ32 =>
  if v33 = 0 then
    zck 1 21 <| zlet (zst σ32 279 1 (-1)) fun σ34 =>
    fM_namePair_82 x1 x2 x3 v2 v4 σ34
  else
  zbi (fM_pitchAt σ32 x1 (zw (x3 - 1))) fun v36 σ35 =>
  zbi (fM_pitchAt σ35 x2 (zw (x3 - 1))) fun v38 σ37 =>
  zbi (fM_abs σ37 (zw (v36 - v38))) fun v40 σ39 =>
  zck 1 21 <| zlet (zst σ39 279 1 v40) fun σ41 =>
  fM_namePair_82 x1 x2 x3 v2 v4 σ41
def fM_beganAhead_4 : Nat → Int → Int → Zm → Zr
  | 0, _, _, _ => none
  | n + 1, x1, x3, σ =>
    zlet (fun (x1 : Int) (x3 : Int) (σ : Zm) => fM_beganAhead_4 n x1 x3 σ) fun R0 =>
    if x3 < 0 then
      some (x3, σ)
    else
    zbi (fM_beginsAt σ x1 x3) fun v3 σ2 =>
    if ¬ v3 = 0 then
      some (x3, σ2)
    else
    R0 x1 (zw (x3 + (-1))) σ2
def fM_beganAhead (σ : Zm) (x1 : Int) (x2 : Int) : Zr :=
  zlet (zw (x2 - 1)) fun v1 =>
  fM_beganAhead_4 5000 x1 v1 σ
def fM_nameLine_18 : Nat → Int → Int → Int → Int → Int → Zm → (Int → Int → Int → Int → Int → Zm → Zr) → Zr
  | 0, _, _, _, _, _, _, _ => none
  | n + 1, x1, x2, x3, x4, x5, σ, K38 =>
    zlet (fun (x1 : Int) (x2 : Int) (x3 : Int) (x4 : Int) (x5 : Int) (σ : Zm) => fM_nameLine_18 n x1 x2 x3 x4 x5 σ K38) fun R0 =>
    zbi (fM_sounds σ x1 (zw ((x2 - 1) - x5))) fun v6 σ5 =>
    if ¬ v6 = 0 then
      K38 x1 x2 x3 x4 x5 σ5
    else
    R0 x1 x2 x3 x4 (zw (x5 + 1)) σ5
def fM_nameLine_88 (x1 : Int) (x2 : Int) (x5 : Int) (σ : Zm) : Zr :=
  zbi (fM_pitchAt σ x1 x2) fun v24 σ23 =>
  zck 10 21 <| zlet (zst σ23 279 10 v24) fun σ25 =>
  zck 11 21 <| zlet (zst σ25 279 11 x5) fun σ26 =>
  zck 0 700 <| zlet (zrd σ26 274 0) fun v27 =>
  zdv v27 <|
  zck 12 21 <| zlet (zst σ26 279 12 (Int.tmod x2 v27)) fun σ28 =>
  some (0, σ28)
def fM_nameLine (σ : Zm) (x1 : Int) (x2 : Int) : Zr :=
  zbi (fM_beganAhead σ x1 x2) fun v2 σ1 =>
  zbi (fM_beganAhead σ1 x1 v2) fun v4 σ3 =>
  fM_nameLine_18 5000 x1 x2 v2 v4 0 σ3 fun y8 y9 y10 y11 y12 σ7 =>
  zbi (fM_pitchAt σ7 y8 y9) fun v14 σ13 =>
  zbi (fM_pitchAt σ13 y8 y10) fun v16 σ15 =>
  zck 8 21 <| zlet (zst σ15 279 8 (v14 - v16)) fun σ17 =>
  if 0 ≤ y11 then
    zbi (fM_pitchAt σ17 y8 y10) fun v19 σ18 =>
    zbi (fM_pitchAt σ18 y8 y11) fun v21 σ20 =>
    zck 9 21 <| zlet (zst σ20 279 9 (v19 - v21)) fun σ22 =>
    fM_nameLine_88 y8 y9 y12 σ22
  else
  zck 9 21 <| zlet (zst σ17 279 9 0) fun σ29 =>
  fM_nameLine_88 y8 y9 y12 σ29
def fM_breakAt_48 (x5 : Int) (σ : Zm) : Zr :=
  zlet (zrd σ 273 26) fun v3 =>
  zlet (zst σ 273 26 (v3 + 1)) fun σ4 =>
  zlet (zrd σ4 273 27) fun v5 =>
  zlet (zst σ4 273 27 (v5 + x5)) fun σ6 =>
  some (0, σ6)
def fM_breakAt (σ : Zm) (x1 : Int) (x2 : Int) (x3 : Int) (x4 : Int) (x5 : Int) : Zr :=
  zlet (zrd σ 273 26) fun v1 =>
  zlet (zrd σ 273 28) fun v2 =>
  if ¬ v1 = v2 then
    fM_breakAt_48 x5 σ
  else
  zck 0 5 <| zlet (zst σ 284 0 x1) fun σ7 =>
  zck 1 5 <| zlet (zst σ7 284 1 x2) fun σ8 =>
  zck 2 5 <| zlet (zst σ8 284 2 x3) fun σ9 =>
  zck 3 5 <| zlet (zst σ9 284 3 x4) fun σ10 =>
  zck 4 5 <| zlet (zst σ10 284 4 x5) fun σ11 =>
  fM_breakAt_48 x5 σ11
def fM_judgePair_32 : Nat → Int → Int → Int → Int → Int → Zm → Zr
  | 0, _, _, _, _, _, _ => none
  | n + 1, x1, x2, x3, x4, x5, σ =>
    zlet (fun (x1 : Int) (x2 : Int) (x3 : Int) (x4 : Int) (x5 : Int) (σ : Zm) => fM_judgePair_32 n x1 x2 x3 x4 x5 σ) fun R0 =>
    zbi (fM_clauses σ x1) fun v7 σ6 =>
    if v7 ≤ x5 then
      some (0, σ6)
    else
    zbi (fM_clauseAt σ6 x1 x5) fun v9 σ8 =>
    zck v9 5400 <| zlet (zrd σ8 276 v9.toNat) fun v10 =>
    if ¬ v10 = 1 then
      R0 x1 x2 x3 x4 (zw (x5 + 1)) σ8
    else
    zbi (fM_isSo σ8 x1 x5) fun v12 σ11 =>
    if v12 = 0 then
      R0 x1 x2 x3 x4 (zw (x5 + 1)) σ11
    else
    zbi (fM_priceAt σ11 x1 x5) fun v14 σ13 =>
    zbv (fM_breakAt σ13 x4 x2 x3 x5 v14) fun σ15 =>
    R0 x1 x2 x3 x4 (zw (x5 + 1)) σ15
def fM_judgePair (σ : Zm) (x1 : Int) (x2 : Int) (x3 : Int) (x4 : Int) : Zr :=
  zbi (fM_sounds σ x2 x4) fun v2 σ1 =>
  if v2 = 0 then
    some (0, σ1)
  else
  zbi (fM_sounds σ1 x3 x4) fun v4 σ3 =>
  if ¬ v4 = 0 then
    zbv (fM_namePair σ3 x2 x3 x4) fun σ5 =>
    fM_judgePair_32 5000 x1 x2 x3 x4 0 σ5
  else
  some (0, σ3)
def fM_judgeLine_37 : Nat → Int → Int → Int → Int → Zm → Zr
  | 0, _, _, _, _, _ => none
  | n + 1, x1, x2, x3, x4, σ =>
    zlet (fun (x1 : Int) (x2 : Int) (x3 : Int) (x4 : Int) (σ : Zm) => fM_judgeLine_37 n x1 x2 x3 x4 σ) fun R0 =>
    zbi (fM_clauses σ x1) fun v9 σ8 =>
    if v9 ≤ x4 then
      some (0, σ8)
    else
    zbi (fM_clauseAt σ8 x1 x4) fun v11 σ10 =>
    zck v11 5400 <| zlet (zrd σ10 276 v11.toNat) fun v12 =>
    if ¬ v12 = 2 then
      R0 x1 x2 x3 (zw (x4 + 1)) σ10
    else
    zbi (fM_isSo σ10 x1 x4) fun v14 σ13 =>
    if v14 = 0 then
      R0 x1 x2 x3 (zw (x4 + 1)) σ13
    else
    zbi (fM_priceAt σ13 x1 x4) fun v16 σ15 =>
    zbv (fM_breakAt σ15 x3 x2 (-1) x4 v16) fun σ17 =>
    R0 x1 x2 x3 (zw (x4 + 1)) σ17
def fM_judgeLine (σ : Zm) (x1 : Int) (x2 : Int) (x3 : Int) : Zr :=
  zbi (fM_sounds σ x2 x3) fun v2 σ1 =>
  if v2 = 0 then
    some (0, σ1)
  else
  zbi (fM_beginsAt σ1 x2 x3) fun v4 σ3 =>
  if v4 = 0 then
    some (0, σ3)
  else
  zbi (fM_beganAhead σ3 x2 x3) fun v6 σ5 =>
  if 0 ≤ v6 then
    zbv (fM_nameLine σ5 x2 x3) fun σ7 =>
    fM_judgeLine_37 5000 x1 x2 x3 0 σ7
  else
  some (0, σ5)
def fM_judge_40 : Nat → Int → Int → Int → Int → Zm → (Int → Int → Int → Zm → Zr) → Zr
  | 0, _, _, _, _, _, _ => none
  | n + 1, x1, x4, x5, x6, σ, K63 =>
    zlet (fun (x1 : Int) (x4 : Int) (x5 : Int) (x6 : Int) (σ : Zm) => fM_judge_40 n x1 x4 x5 x6 σ K63) fun R0 =>
    if 4 ≤ x6 then
      K63 x1 x4 x5 σ
    else
    zbv (fM_judgePair σ x1 x5 x6 x4) fun σ6 =>
    R0 x1 x4 x5 (zw (x6 + 1)) σ6
def fM_judge_28 : Nat → Int → Int → Int → Zm → (Int → Int → Zm → Zr) → Zr
  | 0, _, _, _, _, _ => none
  | n + 1, x1, x4, x5, σ, K69 =>
    zlet (fun (x1 : Int) (x4 : Int) (x5 : Int) (σ : Zm) => fM_judge_28 n x1 x4 x5 σ K69) fun R0 =>
    if 4 ≤ x5 then
      K69 x1 x4 σ
    else
    zlet (zw (x5 + 1)) fun v5 =>
    fM_judge_40 5000 x1 x4 x5 v5 σ fun y8 y9 y10 σ7 =>
    R0 y8 y9 (zw (y10 + 1)) σ7
def fM_judge_72 : Nat → Int → Int → Int → Zm → (Int → Int → Zm → Zr) → Zr
  | 0, _, _, _, _, _ => none
  | n + 1, x1, x4, x5, σ, K93 =>
    zlet (fun (x1 : Int) (x4 : Int) (x5 : Int) (σ : Zm) => fM_judge_72 n x1 x4 x5 σ K93) fun R0 =>
    if 4 ≤ x5 then
      K93 x1 x4 σ
    else
    zbv (fM_judgeLine σ x1 x5 x4) fun σ14 =>
    R0 x1 x4 (zw (x5 + 1)) σ14
def fM_judge_18 : Nat → Int → Int → Zm → Zr
  | 0, _, _, _ => none
  | n + 1, x1, x4, σ =>
    zlet (fun (x1 : Int) (x4 : Int) (σ : Zm) => fM_judge_18 n x1 x4 σ) fun R0 =>
    if 32 ≤ x4 then
      zlet (zrd σ 273 27) fun v4 =>
      some (v4, σ)
    else
    fM_judge_28 5000 x1 x4 0 σ fun y12 y13 σ11 =>
    fM_judge_72 5000 y12 y13 0 σ11 fun y16 y17 σ15 =>
    R0 y16 (zw (y17 + 1)) σ15
def fM_judge (σ : Zm) (x1 : Int) (x2 : Int) (x3 : Int) : Zr :=
  zlet (zst σ 273 26 0) fun σ1 =>
  zlet (zst σ1 273 27 0) fun σ2 =>
  zlet (zst σ2 273 28 x3) fun σ3 =>
  fM_judge_18 5000 x1 x2 σ3
def fM_price (σ : Zm) (x1 : Int) (x2 : Int) : Zr :=
  zbi (fM_isText σ x1) fun v2 σ1 =>
  if v2 = 0 then
    some ((-1), σ1)
  else
  zbi (fM_isPiece σ1 x2) fun v4 σ3 =>
  if ¬ v4 = 0 then
    zbv (fM_layPiece σ3 x2) fun σ5 =>
    zbi (fM_judge σ5 x1 0 (-1)) fun v7 σ6 =>
    some (v7, σ6)
  else
  some ((-1), σ3)
def fM_breaks_36 (x1 : Int) (x2 : Int) (x3 : Int) (x4 : Int) (σ : Zm) : Zr :=
  zbv (fM_layPiece σ x2) fun σ5 =>
  zbi (fM_judge σ5 x1 0 x3) fun v7 σ6 =>
  if ¬ x3 = (-1) then
    zlet (zrd σ6 273 26) fun v8 =>
    if v8 ≤ x3 then
      some ((-1), σ6)
    else
    zck x4 5 <| zlet (zrd σ6 284 x4.toNat) fun v9 =>
    some (v9, σ6)
  else
  zlet (zrd σ6 273 26) fun v10 =>
  some (v10, σ6)
def fM_breaks (σ : Zm) (x1 : Int) (x2 : Int) (x3 : Int) (x4 : Int) : Zr :=
  zbi (fM_isText σ x1) fun v2 σ1 =>
  if v2 = 0 then
    some ((-1), σ1)
  else
  zbi (fM_isPiece σ1 x2) fun v4 σ3 =>
  if v4 = 0 then
    some ((-1), σ3)
  else
  if x3 < (-1) then
    some ((-1), σ3)
  else
  if x3 < 0 then
    fM_breaks_36 x1 x2 x3 x4 σ3
  else
  zbi (fM_isIn σ3 x4 0 4) fun v12 σ11 =>
  if ¬ v12 = 0 then
    fM_breaks_36 x1 x2 x3 x4 σ11
  else
  some ((-1), σ11)
def fM_takeSubject_2 : Nat → Int → Int → Zm → Zr
  | 0, _, _, _ => none
  | n + 1, x1, x2, σ =>
    zlet (fun (x1 : Int) (x2 : Int) (σ : Zm) => fM_takeSubject_2 n x1 x2 σ) fun R0 =>
    if 12 ≤ x2 then
      some (0, σ)
    else
    zck (zw ((530 + (12 * x1)) + x2)) 700 <| zlet (zrd σ 274 (zw ((530 + (12 * x1)) + x2)).toNat) fun v1 =>
    zck x2 12 <| zlet (zst σ 285 x2.toNat v1) fun σ2 =>
    R0 x1 (zw (x2 + 1)) σ2
def fM_takeSubject (σ : Zm) (x1 : Int) : Zr :=
  fM_takeSubject_2 5000 x1 0 σ
def fM_isMadeHeld (σ : Zm) (x1 : Int) : Zr :=
  zck x1 12 <| zlet (zrd σ 285 x1.toNat) fun v1 =>
  if v1 ≤ 50000 then
    some (0, σ)
  else
  some (1, σ)
def fM_layForm_3 : Nat → Int → Int → Int → Int → Int → Int → Zm → (Int → Int → Int → Int → Int → Zm → Zr) → Zr
  | 0, _, _, _, _, _, _, _, _ => none
  | n + 1, x1, x2, x3, x4, x5, x6, σ, K44 =>
    zlet (fun (x1 : Int) (x2 : Int) (x3 : Int) (x4 : Int) (x5 : Int) (x6 : Int) (σ : Zm) => fM_layForm_3 n x1 x2 x3 x4 x5 x6 σ K44) fun R0 =>
    if 32 ≤ x6 then
      K44 x1 x2 x3 x4 x5 σ
    else
    zck (zw ((32 * x1) + x6)) 128 <| zlet (zst σ 282 (zw ((32 * x1) + x6)).toNat (-1000)) fun σ1 =>
    zck (zw ((32 * x1) + x6)) 128 <| zlet (zst σ1 283 (zw ((32 * x1) + x6)).toNat 0) fun σ2 =>
    R0 x1 x2 x3 x4 x5 (zw (x6 + 1)) σ2
def fM_layForm_157 (R0 : Int → Int → Int → Int → Int → Int → Int → Int → Int → Zm → Zr) (K185 : Int → Int → Int → Int → Int → Int → Zm → Zr) (x1 : Int) (x2 : Int) (x3 : Int) (x4 : Int) (x5 : Int) (x6 : Int) (x7 : Int) (x8 : Int) (x9 : Int) (x10 : Int) (σ : Zm) : Zr :=
  if ¬ x9 = 0 then
    zck x10 128 <| zlet (zst σ 283 x10.toNat 0) fun σ15 =>
    R0 x1 x2 x3 x4 x5 x6 x7 x8 (zw (x9 + 1)) σ15
  else
  if ¬ x7 = 0 then
    zck x10 128 <| zlet (zst σ 283 x10.toNat 0) fun σ16 =>
    R0 x1 x2 x3 x4 x5 x6 x7 x8 (zw (x9 + 1)) σ16
  else
  zck x10 128 <| zlet (zst σ 283 x10.toNat 1) fun σ17 =>
  R0 x1 x2 x3 x4 x5 x6 x7 x8 (zw (x9 + 1)) σ17
def fM_layForm_108 : Nat → Int → Int → Int → Int → Int → Int → Int → Int → Int → Zm → (Int → Int → Int → Int → Int → Int → Zm → Zr) → Zr
  | 0, _, _, _, _, _, _, _, _, _, _, _ => none
  | n + 1, x1, x2, x3, x4, x5, x6, x7, x8, x9, σ, K185 =>
    zlet (fun (x1 : Int) (x2 : Int) (x3 : Int) (x4 : Int) (x5 : Int) (x6 : Int) (x7 : Int) (x8 : Int) (x9 : Int) (σ : Zm) => fM_layForm_108 n x1 x2 x3 x4 x5 x6 x7 x8 x9 σ K185) fun R0 =>
    if x5 ≤ x9 then
      K185 x1 x2 x3 x4 x5 x6 σ
    else
    zlet (zw ((((32 * x1) + x3) + (x5 * x6)) + x9)) fun v13 =>
    if x4 = 0 then
      zck v13 128 <| zlet (zst σ 282 v13.toNat ((30 + x2) + x8)) fun σ14 =>
      fM_layForm_157 R0 K185 x1 x2 x3 x4 x5 x6 x7 x8 x9 v13 σ14
    else
    zck v13 128 <| zlet (zst σ 282 v13.toNat ((30 + x2) + (-x8))) fun σ18 =>
    fM_layForm_157 R0 K185 x1 x2 x3 x4 x5 x6 x7 x8 x9 v13 σ18
def fM_layForm_47 : Nat → Int → Int → Int → Int → Int → Int → Zm → Zr
  | 0, _, _, _, _, _, _, _ => none
  | n + 1, x1, x2, x3, x4, x5, x6, σ =>
    zlet (fun (x1 : Int) (x2 : Int) (x3 : Int) (x4 : Int) (x5 : Int) (x6 : Int) (σ : Zm) => fM_layForm_47 n x1 x2 x3 x4 x5 x6 σ) fun R0 =>
    if 12 ≤ x6 then
      some (0, σ)
    else
    zck x6 12 <| zlet (zrd σ 285 x6.toNat) fun v9 =>
    if ¬ v9 = (-1000) then
      zbi (fM_isMadeHeld σ x6) fun v11 σ10 =>
      if v11 = 0 then
        zck x6 12 <| zlet (zrd σ10 285 x6.toNat) fun v12 =>
        fM_layForm_108 5000 x1 x2 x3 x4 x5 x6 v11 v12 0 σ10 fun y20 y21 y22 y23 y24 y25 σ19 =>
        R0 y20 y21 y22 y23 y24 (zw (y25 + 1)) σ19
      else
      zck x6 12 <| zlet (zrd σ10 285 x6.toNat) fun v26 =>
      zlet (zw (v26 - 100000)) fun v27 =>
      fM_layForm_108 5000 x1 x2 x3 x4 x5 x6 v11 v27 0 σ10 fun y29 y30 y31 y32 y33 y34 σ28 =>
      R0 y29 y30 y31 y32 y33 (zw (y34 + 1)) σ28
    else
    R0 x1 x2 x3 x4 x5 (zw (x6 + 1)) σ
def fM_layForm (σ : Zm) (x1 : Int) (x2 : Int) (x3 : Int) (x4 : Int) (x5 : Int) : Zr :=
  fM_layForm_3 5000 x1 x2 x3 x4 x5 0 σ fun y4 y5 y6 y7 y8 σ3 =>
  fM_layForm_47 5000 y4 y5 y6 y7 y8 0 σ3
def fM_liftHeld_2 : Nat → Int → Zm → Zr
  | 0, _, _ => none
  | n + 1, x1, σ =>
    zlet (fun (x1 : Int) (σ : Zm) => fM_liftHeld_2 n x1 σ) fun R0 =>
    if 12 ≤ x1 then
      some (0, σ)
    else
    zck x1 12 <| zlet (zrd σ 285 x1.toNat) fun v1 =>
    zbi (fM_isHeld σ v1) fun v3 σ2 =>
    if v3 = 0 then
      R0 (zw (x1 + 1)) σ2
    else
    zck x1 12 <| zlet (zrd σ2 285 x1.toNat) fun v4 =>
    zck x1 12 <| zlet (zst σ2 285 x1.toNat (v4 + 99900)) fun σ5 =>
    R0 (zw (x1 + 1)) σ5
def fM_liftHeld (σ : Zm) : Zr :=
  fM_liftHeld_2 5000 0 σ
def fM_takeForm (σ : Zm) (x1 : Int) (x2 : Int) (x3 : Int) (x4 : Int) (x5 : Int) (x6 : Int) : Zr :=
  zbv (fM_takeSubject σ x1) fun σ1 =>
  zbv (fM_liftHeld σ1) fun σ2 =>
  zbv (fM_layForm σ2 x2 x3 x4 x5 x6) fun σ3 =>
  some (0, σ3)
def fM_areSubjects (σ : Zm) (x1 : Int) (x2 : Int) : Zr :=
  zbi (fM_isSubject σ x1) fun v2 σ1 =>
  if v2 = 0 then
    some (0, σ1)
  else
  zbi (fM_isSubject σ1 x2) fun v4 σ3 =>
  if v4 = 0 then
    some (0, σ3)
  else
  zbi (fM_beatsOf σ3 x1) fun v6 σ5 =>
  if v6 ≤ 0 then
    some (0, σ5)
  else
  zbi (fM_beatsOf σ5 x2) fun v8 σ7 =>
  if v8 ≤ 0 then
    some (0, σ7)
  else
  some (1, σ7)
def fM_fit (σ : Zm) (x1 : Int) (x2 : Int) (x3 : Int) (x4 : Int) (x5 : Int) (x6 : Int) (x7 : Int) : Zr :=
  zbi (fM_isText σ x1) fun v2 σ1 =>
  if v2 = 0 then
    some ((-1), σ1)
  else
  zbi (fM_areSubjects σ1 x2 x3) fun v4 σ3 =>
  if v4 = 0 then
    some ((-1), σ3)
  else
  zbi (fM_isIn σ3 x4 (-12) 12) fun v6 σ5 =>
  if v6 = 0 then
    some ((-1), σ5)
  else
  zbi (fM_isIn σ5 x5 0 8) fun v8 σ7 =>
  if v8 = 0 then
    some ((-1), σ7)
  else
  zbi (fM_isIn σ7 x7 1 2) fun v10 σ9 =>
  if ¬ v10 = 0 then
    zbv (fM_clearSheet σ9) fun σ11 =>
    zbv (fM_takeForm σ11 x2 0 0 0 0 1) fun σ12 =>
    zbv (fM_takeForm σ12 x3 1 x4 x5 x6 x7) fun σ13 =>
    zbi (fM_judge σ13 x1 0 (-1)) fun v15 σ14 =>
    some (v15, σ14)
  else
  some ((-1), σ9)
def fM_formCode (σ : Zm) (x0 : Int) (x1 : Int) (x2 : Int) (x3 : Int) : Zr :=
  if x2 = 0 then
    some (((((10000 * (x3 - 1)) + 0) + (100 * x1)) + x0) + 12, σ)
  else
  some (((((10000 * (x3 - 1)) + 5000) + (100 * x1)) + x0) + 12, σ)
def fM_goThrough_157 (R0 : Int → Int → Int → Int → Zm → Zr) (x1 : Int) (x2 : Int) (x3 : Int) (x4 : Int) (x5 : Int) (x6 : Int) (x7 : Int) (x8 : Int) (x9 : Int) (σ : Zm) : Zr :=
  zlet (zst σ 273 33 x9) fun σ12 =>
  zbi (fM_formCode σ12 x5 x6 x7 x8) fun v14 σ13 =>
  zlet (zst σ13 273 34 v14) fun σ15 =>
  R0 x1 x2 x3 (zw (x4 + 1)) σ15
def fM_goThrough_141 (R0 : Int → Int → Int → Int → Zm → Zr) (x1 : Int) (x2 : Int) (x3 : Int) (x4 : Int) (x5 : Int) (x6 : Int) (x7 : Int) (x8 : Int) (x9 : Int) (σ : Zm) : Zr :=
  zlet (zrd σ 273 33) fun v11 =>
  if v11 < 0 then
    fM_goThrough_157 R0 x1 x2 x3 x4 x5 x6 x7 x8 x9 σ
  else
  zlet (zrd σ 273 33) fun v16 =>
  if v16 ≤ x9 then
    R0 x1 x2 x3 (zw (x4 + 1)) σ
  else
  fM_goThrough_157 R0 x1 x2 x3 x4 x5 x6 x7 x8 x9 σ
def fM_goThrough_131 (R0 : Int → Int → Int → Int → Zm → Zr) (x1 : Int) (x2 : Int) (x3 : Int) (x4 : Int) (x5 : Int) (x6 : Int) (x7 : Int) (x8 : Int) (x9 : Int) (σ : Zm) : Zr :=
  zlet (zrd σ 273 31) fun v18 =>
  zlet (zst σ 273 31 (v18 + 1)) fun σ19 =>
  fM_goThrough_141 R0 x1 x2 x3 x4 x5 x6 x7 x8 x9 σ19
def fM_goThrough_70 (R0 : Int → Int → Int → Int → Zm → Zr) (x1 : Int) (x2 : Int) (x3 : Int) (x4 : Int) (x5 : Int) (x6 : Int) (x7 : Int) (σ : Zm) : Zr :=
  zlet (zw ((Int.tdiv x4 450) + 1)) fun v7 =>
  zbv (fM_layForm σ 1 x5 x6 x7 v7) fun σ8 =>
  zbi (fM_judge σ8 x1 0 (-1)) fun v10 σ9 =>
  if x2 < v10 then
    fM_goThrough_141 R0 x1 x2 x3 x4 x5 x6 x7 v7 v10 σ9
  else
  zlet (zrd σ9 273 31) fun v17 =>
  if ¬ v17 = x3 then
    fM_goThrough_131 R0 x1 x2 x3 x4 x5 x6 x7 v7 v10 σ9
  else
  zbi (fM_formCode σ9 x5 x6 x7 v7) fun v21 σ20 =>
  zlet (zst σ20 273 32 v21) fun σ22 =>
  fM_goThrough_131 R0 x1 x2 x3 x4 x5 x6 x7 v7 v10 σ22
def fM_goThrough_23 : Nat → Int → Int → Int → Int → Zm → Zr
  | 0, _, _, _, _, _ => none
  | n + 1, x1, x2, x3, x4, σ =>
    zlet (fun (x1 : Int) (x2 : Int) (x3 : Int) (x4 : Int) (σ : Zm) => fM_goThrough_23 n x1 x2 x3 x4 σ) fun R0 =>
    if 900 ≤ x4 then
      some (0, σ)
    else
    zlet (zw ((Int.tmod x4 25) - 12)) fun v5 =>
    zlet (zw (Int.tmod (zw (Int.tdiv x4 25)) 9)) fun v6 =>
    if ¬ zw (Int.tmod (zw (Int.tdiv x4 225)) 2) = 1 then
      fM_goThrough_70 R0 x1 x2 x3 x4 v5 v6 0 σ
    else
    fM_goThrough_70 R0 x1 x2 x3 x4 v5 v6 1 σ
def fM_goThrough (σ : Zm) (x1 : Int) (x2 : Int) (x3 : Int) : Zr :=
  zlet (zst σ 273 31 0) fun σ1 =>
  zlet (zst σ1 273 32 (-1)) fun σ2 =>
  zlet (zst σ2 273 33 (-1)) fun σ3 =>
  zlet (zst σ3 273 34 (-1)) fun σ4 =>
  fM_goThrough_23 5000 x1 x2 x3 0 σ4
def fM_prepare (σ : Zm) (x1 : Int) (x2 : Int) : Zr :=
  zbv (fM_clearSheet σ) fun σ1 =>
  zbv (fM_takeForm σ1 x1 0 0 0 0 1) fun σ2 =>
  zbv (fM_takeSubject σ2 x2) fun σ3 =>
  zbv (fM_liftHeld σ3) fun σ4 =>
  some (0, σ4)
def fM_isLimit (σ : Zm) (x0 : Int) : Zr :=
  zbi (fM_isIn σ x0 0 1000000) fun v2 σ1 =>
  some (zb v2, σ1)
def fM_fits (σ : Zm) (x1 : Int) (x2 : Int) (x3 : Int) (x4 : Int) (x5 : Int) : Zr :=
  zbi (fM_isText σ x1) fun v2 σ1 =>
  if v2 = 0 then
    some ((-1), σ1)
  else
  zbi (fM_areSubjects σ1 x2 x3) fun v4 σ3 =>
  if v4 = 0 then
    some ((-1), σ3)
  else
  zbi (fM_isLimit σ3 x4) fun v6 σ5 =>
  if v6 = 0 then
    some ((-1), σ5)
  else
  if (-1) ≤ x5 then
    zbv (fM_prepare σ5 x2 x3) fun σ7 =>
    zbv (fM_goThrough σ7 x1 x4 x5) fun σ8 =>
    if ¬ x5 = (-1) then
      zlet (zrd σ8 273 32) fun v9 =>
      some (v9, σ8)
    else
    zlet (zrd σ8 273 31) fun v10 =>
    some (v10, σ8)
  else
  some ((-1), σ5)
def fM_cheapest (σ : Zm) (x1 : Int) (x2 : Int) (x3 : Int) (x4 : Int) : Zr :=
  zbi (fM_isText σ x1) fun v2 σ1 =>
  if v2 = 0 then
    some ((-1), σ1)
  else
  zbi (fM_areSubjects σ1 x2 x3) fun v4 σ3 =>
  if v4 = 0 then
    some ((-1), σ3)
  else
  zbi (fM_isIn σ3 x4 0 1) fun v6 σ5 =>
  if ¬ v6 = 0 then
    zbv (fM_prepare σ5 x2 x3) fun σ7 =>
    zbv (fM_goThrough σ7 x1 0 (-1)) fun σ8 =>
    if ¬ x4 = 0 then
      zlet (zrd σ8 273 34) fun v9 =>
      some (v9, σ8)
    else
    zlet (zrd σ8 273 33) fun v10 =>
    some (v10, σ8)
  else
  some ((-1), σ5)
def fM_layThird (σ : Zm) (x1 : Int) (x2 : Int) (x3 : Int) : Zr :=
  if ¬ zw (Int.tdiv x3 44) = 1 then
    zbv (fM_takeForm σ x1 x2 (zw ((Int.tmod x3 11) - 5)) (zw (Int.tmod (zw (Int.tdiv x3 11)) 4)) 0 1) fun σ1 =>
    some (0, σ1)
  else
  zbv (fM_takeForm σ x1 x2 (zw ((Int.tmod x3 11) - 5)) (zw (Int.tmod (zw (Int.tdiv x3 11)) 4)) 1 1) fun σ2 =>
  some (0, σ2)
def fM_thirdCode (σ : Zm) (x0 : Int) : Zr :=
  if ¬ zw (Int.tdiv x0 44) = 1 then
    zbi (fM_formCode σ (zw ((Int.tmod x0 11) - 5)) (zw (Int.tmod (zw (Int.tdiv x0 11)) 4)) 0 1) fun v2 σ1 =>
    some (v2, σ1)
  else
  zbi (fM_formCode σ (zw ((Int.tmod x0 11) - 5)) (zw (Int.tmod (zw (Int.tdiv x0 11)) 4)) 1 1) fun v4 σ3 =>
  some (v4, σ3)
def fM_three_137 (R0 : Int → Int → Int → Int → Int → Int → Int → Int → Zm → Zr) (K175 : Int → Int → Int → Int → Int → Int → Int → Zm → Zr) (x1 : Int) (x3 : Int) (x4 : Int) (x5 : Int) (x8 : Int) (x9 : Int) (x10 : Int) (σ : Zm) : Zr :=
  if ¬ x5 = 0 then
    if ¬ x5 = 1 then
      zbi (fM_thirdCode σ x9) fun v16 σ15 =>
      R0 x1 x3 x4 x5 x10 v16 x8 (zw (x9 + 1)) σ15
    else
    zbi (fM_thirdCode σ x8) fun v18 σ17 =>
    R0 x1 x3 x4 x5 x10 v18 x8 (zw (x9 + 1)) σ17
  else
  R0 x1 x3 x4 x5 x10 x10 x8 (zw (x9 + 1)) σ
def fM_three_97 : Nat → Int → Int → Int → Int → Int → Int → Int → Int → Zm → (Int → Int → Int → Int → Int → Int → Int → Zm → Zr) → Zr
  | 0, _, _, _, _, _, _, _, _, _, _ => none
  | n + 1, x1, x3, x4, x5, x6, x7, x8, x9, σ, K175 =>
    zlet (fun (x1 : Int) (x3 : Int) (x4 : Int) (x5 : Int) (x6 : Int) (x7 : Int) (x8 : Int) (x9 : Int) (σ : Zm) => fM_three_97 n x1 x3 x4 x5 x6 x7 x8 x9 σ K175) fun R0 =>
    if 88 ≤ x9 then
      K175 x1 x3 x4 x5 x6 x7 x8 σ
    else
    zbv (fM_layThird σ x4 2 x9) fun σ12 =>
    zbi (fM_judge σ12 x1 0 (-1)) fun v14 σ13 =>
    if x6 < 0 then
      fM_three_137 R0 K175 x1 x3 x4 x5 x8 x9 v14 σ13
    else
    if v14 < x6 then
      fM_three_137 R0 K175 x1 x3 x4 x5 x8 x9 v14 σ13
    else
    R0 x1 x3 x4 x5 x6 x7 x8 (zw (x9 + 1)) σ13
def fM_three_79 : Nat → Int → Int → Int → Int → Int → Int → Int → Zm → Zr
  | 0, _, _, _, _, _, _, _, _ => none
  | n + 1, x1, x3, x4, x5, x6, x7, x8, σ =>
    zlet (fun (x1 : Int) (x3 : Int) (x4 : Int) (x5 : Int) (x6 : Int) (x7 : Int) (x8 : Int) (σ : Zm) => fM_three_79 n x1 x3 x4 x5 x6 x7 x8 σ) fun R0 =>
    if 88 ≤ x8 then
      some (x7, σ)
    else
    zbv (fM_layThird σ x3 1 x8) fun σ11 =>
    fM_three_97 5000 x1 x3 x4 x5 x6 x7 x8 0 σ11 fun y20 y21 y22 y23 y24 y25 y26 σ19 =>
    R0 y20 y21 y22 y23 y24 y25 (zw (y26 + 1)) σ19
def fM_three (σ : Zm) (x1 : Int) (x2 : Int) (x3 : Int) (x4 : Int) (x5 : Int) : Zr :=
  zbi (fM_isText σ x1) fun v2 σ1 =>
  if v2 = 0 then
    some ((-1), σ1)
  else
  zbi (fM_areSubjects σ1 x2 x3) fun v4 σ3 =>
  if v4 = 0 then
    some ((-1), σ3)
  else
  zbi (fM_areSubjects σ3 x2 x4) fun v6 σ5 =>
  if v6 = 0 then
    some ((-1), σ5)
  else
  if x2 = x3 then
    some ((-1), σ5)
  else
  if x2 = x4 then
    some ((-1), σ5)
  else
  if x3 = x4 then
    some ((-1), σ5)
  else
  zbi (fM_isIn σ5 x5 0 2) fun v8 σ7 =>
  if ¬ v8 = 0 then
    zbv (fM_clearSheet σ7) fun σ9 =>
    zbv (fM_takeForm σ9 x2 0 0 0 0 1) fun σ10 =>
    fM_three_79 5000 x1 x3 x4 x5 (-1) (-1) 0 σ10
  else
  some ((-1), σ7)
def fM_takeChanges_6 : Nat → Int → Int → Int → Zm → Zr
  | 0, _, _, _, _ => none
  | n + 1, x1, x2, x3, σ =>
    zlet (fun (x1 : Int) (x2 : Int) (x3 : Int) (σ : Zm) => fM_takeChanges_6 n x1 x2 x3 σ) fun R0 =>
    if 12 ≤ x3 then
      some (x1, σ)
    else
    zck x3 12 <| zlet (zrd σ 285 x3.toNat) fun v1 =>
    if v1 = (-1000) then
      R0 x1 x2 (zw (x3 + 1)) σ
    else
    zbi (fM_isMadeHeld σ x3) fun v3 σ2 =>
    if v3 = 0 then
      if x1 < 0 then
        zck x3 12 <| zlet (zrd σ2 285 x3.toNat) fun v4 =>
        R0 (zw (x1 + 1)) v4 (zw (x3 + 1)) σ2
      else
      zck x3 12 <| zlet (zrd σ2 285 x3.toNat) fun v5 =>
      zck x1 12 <| zlet (zst σ2 286 x1.toNat (v5 - x2)) fun σ6 =>
      zck x3 12 <| zlet (zrd σ6 285 x3.toNat) fun v7 =>
      R0 (zw (x1 + 1)) v7 (zw (x3 + 1)) σ6
    else
    R0 x1 x2 (zw (x3 + 1)) σ2
def fM_takeChanges (σ : Zm) : Zr :=
  fM_takeChanges_6 5000 (-1) 0 0 σ
def fM_shuffle_7 : Nat → Int → Int → Zm → Zr
  | 0, _, _, _ => none
  | n + 1, x3, x4, σ =>
    zlet (fun (x3 : Int) (x4 : Int) (σ : Zm) => fM_shuffle_7 n x3 x4 σ) fun R0 =>
    if x4 ≤ 0 then
      some (0, σ)
    else
    zdv (zw (x4 + 1)) <|
    zlet (zw (Int.tmod x3 (zw (x4 + 1)))) fun v2 =>
    zck x4 12 <| zlet (zrd σ 286 x4.toNat) fun v3 =>
    zck v2 12 <| zlet (zrd σ 286 v2.toNat) fun v4 =>
    zck x4 12 <| zlet (zst σ 286 x4.toNat v4) fun σ5 =>
    zck v2 12 <| zlet (zst σ5 286 v2.toNat v3) fun σ6 =>
    zlet (zw (Int.tmod (zw ((x3 * 131) + 17)) 30013)) fun v7 =>
    R0 v7 (zw (x4 + (-1))) σ6
def fM_shuffle (σ : Zm) (x1 : Int) (x2 : Int) : Zr :=
  zlet (zw (x1 - 1)) fun v1 =>
  fM_shuffle_7 5000 x2 v1 σ
def fM_putChanges_6 : Nat → Int → Int → Int → Zm → Zr
  | 0, _, _, _, _ => none
  | n + 1, x1, x2, x3, σ =>
    zlet (fun (x1 : Int) (x2 : Int) (x3 : Int) (σ : Zm) => fM_putChanges_6 n x1 x2 x3 σ) fun R0 =>
    if 12 ≤ x3 then
      some (0, σ)
    else
    zck x3 12 <| zlet (zrd σ 285 x3.toNat) fun v1 =>
    if ¬ v1 = (-1000) then
      zbi (fM_isMadeHeld σ x3) fun v3 σ2 =>
      if v3 = 0 then
        if 0 ≤ x1 then
          zck x1 12 <| zlet (zrd σ2 286 x1.toNat) fun v4 =>
          zlet (zw (x2 + v4)) fun v5 =>
          zck x3 12 <| zlet (zst σ2 285 x3.toNat v5) fun σ6 =>
          R0 (zw (x1 + 1)) v5 (zw (x3 + 1)) σ6
        else
        zck x3 12 <| zlet (zrd σ2 285 x3.toNat) fun v7 =>
        zck x3 12 <| zlet (zst σ2 285 x3.toNat v7) fun σ8 =>
        R0 (zw (x1 + 1)) v7 (zw (x3 + 1)) σ8
      else
      zck x3 12 <| zlet (zst σ2 285 x3.toNat (x2 + 100000)) fun σ9 =>
      R0 x1 x2 (zw (x3 + 1)) σ9
    else
    R0 x1 x2 (zw (x3 + 1)) σ
def fM_putChanges (σ : Zm) : Zr :=
  fM_putChanges_6 5000 (-1) 0 0 σ
def fM_chance_56 : Nat → Int → Int → Int → Int → Int → Int → Int → Int → Zm → Zr
  | 0, _, _, _, _, _, _, _, _, _ => none
  | n + 1, x1, x2, x3, x4, x5, x6, x7, x8, σ =>
    zlet (fun (x1 : Int) (x2 : Int) (x3 : Int) (x4 : Int) (x5 : Int) (x6 : Int) (x7 : Int) (x8 : Int) (σ : Zm) => fM_chance_56 n x1 x2 x3 x4 x5 x6 x7 x8 σ) fun R0 =>
    if x5 ≤ x8 then
      some (x7, σ)
    else
    zbv (fM_prepare σ x2 x3) fun σ11 =>
    zbi (fM_takeChanges σ11) fun v13 σ12 =>
    zbv (fM_shuffle σ12 v13 (zw (x6 + (1000 * x8)))) fun σ14 =>
    zbv (fM_putChanges σ14) fun σ15 =>
    zbv (fM_goThrough σ15 x1 x4 (-1)) fun σ16 =>
    zlet (zrd σ16 273 31) fun v17 =>
    if v17 ≤ 0 then
      zlet (zw (x7 + 0)) fun v18 =>
      R0 x1 x2 x3 x4 x5 x6 v18 (zw (x8 + 1)) σ16
    else
    zlet (zw (x7 + 1)) fun v19 =>
    R0 x1 x2 x3 x4 x5 x6 v19 (zw (x8 + 1)) σ16
def fM_chance (σ : Zm) (x1 : Int) (x2 : Int) (x3 : Int) (x4 : Int) (x5 : Int) (x6 : Int) : Zr :=
  zbi (fM_isText σ x1) fun v2 σ1 =>
  if v2 = 0 then
    some ((-1), σ1)
  else
  zbi (fM_areSubjects σ1 x2 x3) fun v4 σ3 =>
  if v4 = 0 then
    some ((-1), σ3)
  else
  zbi (fM_isLimit σ3 x4) fun v6 σ5 =>
  if v6 = 0 then
    some ((-1), σ5)
  else
  zbi (fM_isIn σ5 x5 1 40) fun v8 σ7 =>
  if v8 = 0 then
    some ((-1), σ7)
  else
  zbi (fM_isIn σ7 x6 0 9999) fun v10 σ9 =>
  if ¬ v10 = 0 then
    fM_chance_56 5000 x1 x2 x3 x4 x5 x6 0 0 σ9
  else
  some ((-1), σ9)
def fM_held12 (σ : Zm) (x0 : Int) : Zr :=
  if (-12) ≤ x0 then
    if x0 ≤ 12 then
      some (x0, σ)
    else
    some (12, σ)
  else
  some ((-12), σ)
def fM_forget_7 : Nat → Int → Zm → (Zm → Zr) → Zr
  | 0, _, _, _ => none
  | n + 1, x1, σ, K26 =>
    zlet (fun (x1 : Int) (σ : Zm) => fM_forget_7 n x1 σ K26) fun R0 =>
    if 25 ≤ x1 then
      K26 σ
    else
    zck x1 25 <| zlet (zst σ 287 x1.toNat 0) fun σ2 =>
    R0 (zw (x1 + 1)) σ2
def fM_forget_28 : Nat → Int → Zm → Zr
  | 0, _, _ => none
  | n + 1, x1, σ =>
    zlet (fun (x1 : Int) (σ : Zm) => fM_forget_28 n x1 σ) fun R0 =>
    if 625 ≤ x1 then
      some (0, σ)
    else
    zck x1 625 <| zlet (zst σ 288 x1.toNat 0) fun σ4 =>
    R0 (zw (x1 + 1)) σ4
def fM_forget (σ : Zm) : Zr :=
  zlet (zst σ 273 38 0) fun σ1 =>
  fM_forget_7 5000 0 σ1 fun σ3 =>
  fM_forget_28 5000 0 σ3
def fM_learnPiece_20 : Nat → Int → Int → Int → Int → Zm → (Int → Zm → Zr) → Zr
  | 0, _, _, _, _, _, _ => none
  | n + 1, x2, x3, x4, x5, σ, K122 =>
    zlet (fun (x2 : Int) (x3 : Int) (x4 : Int) (x5 : Int) (σ : Zm) => fM_learnPiece_20 n x2 x3 x4 x5 σ K122) fun R0 =>
    if 32 ≤ x5 then
      K122 x2 σ
    else
    zbi (fM_beginsAt σ x2 x5) fun v3 σ2 =>
    if ¬ v3 = 0 then
      if x3 < 0 then
        zbi (fM_pitchAt σ2 x2 x5) fun v5 σ4 =>
        R0 x2 v5 x4 (zw (x5 + 1)) σ4
      else
      zbi (fM_pitchAt σ2 x2 x5) fun v7 σ6 =>
      zbi (fM_held12 σ6 (zw (v7 - x3))) fun v9 σ8 =>
      zlet (zw (v9 + 12)) fun v10 =>
      zck v10 25 <| zlet (zrd σ8 287 v10.toNat) fun v11 =>
      zck v10 25 <| zlet (zst σ8 287 v10.toNat (v11 + 1)) fun σ12 =>
      zlet (zrd σ12 273 38) fun v13 =>
      zlet (zst σ12 273 38 (v13 + 1)) fun σ14 =>
      if x4 < 0 then
        zbi (fM_pitchAt σ14 x2 x5) fun v16 σ15 =>
        R0 x2 v16 v10 (zw (x5 + 1)) σ15
      else
      zck (zw ((25 * x4) + v10)) 625 <| zlet (zrd σ14 288 (zw ((25 * x4) + v10)).toNat) fun v17 =>
      zck (zw ((25 * x4) + v10)) 625 <| zlet (zst σ14 288 (zw ((25 * x4) + v10)).toNat (v17 + 1)) fun σ18 =>
      zbi (fM_pitchAt σ18 x2 x5) fun v20 σ19 =>
      R0 x2 v20 v10 (zw (x5 + 1)) σ19
    else
    R0 x2 x3 x4 (zw (x5 + 1)) σ2
def fM_learnPiece_7 : Nat → Int → Zm → Zr
  | 0, _, _ => none
  | n + 1, x2, σ =>
    zlet (fun (x2 : Int) (σ : Zm) => fM_learnPiece_7 n x2 σ) fun R0 =>
    if 4 ≤ x2 then
      some (0, σ)
    else
    fM_learnPiece_20 5000 x2 (-1) (-1) 0 σ fun y22 σ21 =>
    R0 (zw (y22 + 1)) σ21
def fM_learnPiece (σ : Zm) (x1 : Int) : Zr :=
  zbv (fM_layPiece σ x1) fun σ1 =>
  fM_learnPiece_7 5000 0 σ1
def fM_learn_6 : Nat → Int → Int → Zm → Zr
  | 0, _, _, _ => none
  | n + 1, x1, x2, σ =>
    zlet (fun (x1 : Int) (x2 : Int) (σ : Zm) => fM_learn_6 n x1 x2 σ) fun R0 =>
    if 4 ≤ x2 then
      some (0, σ)
    else
    if ¬ zand (zshr x1 x2) 1 = 1 then
      R0 x1 (zw (x2 + 1)) σ
    else
    zbv (fM_learnPiece σ x2) fun σ2 =>
    R0 x1 (zw (x2 + 1)) σ2
def fM_learn (σ : Zm) (x1 : Int) : Zr :=
  zbv (fM_forget σ) fun σ1 =>
  fM_learn_6 5000 x1 0 σ1
def fM_isSet (σ : Zm) (x0 : Int) : Zr :=
  zbi (fM_isIn σ x0 0 15) fun v2 σ1 =>
  some (zb v2, σ1)
def fM_seen (σ : Zm) (x1 : Int) (x2 : Int) : Zr :=
  zbi (fM_isSet σ x1) fun v2 σ1 =>
  if v2 = 0 then
    some ((-1), σ1)
  else
  zbi (fM_isIn σ1 x2 (-12) 12) fun v4 σ3 =>
  if ¬ v4 = 0 then
    zbv (fM_learn σ3 x1) fun σ5 =>
    zck (zw (x2 + 12)) 25 <| zlet (zrd σ5 287 (zw (x2 + 12)).toNat) fun v6 =>
    some (v6, σ5)
  else
  some ((-1), σ3)
def fM_strangeOf_15 : Nat → Int → Int → Int → Int → Zm → (Int → Int → Int → Zm → Zr) → Zr
  | 0, _, _, _, _, _, _ => none
  | n + 1, x1, x2, x3, x4, σ, K42 =>
    zlet (fun (x1 : Int) (x2 : Int) (x3 : Int) (x4 : Int) (σ : Zm) => fM_strangeOf_15 n x1 x2 x3 x4 σ K42) fun R0 =>
    if 25 ≤ x4 then
      K42 x1 x2 x3 σ
    else
    zck x4 25 <| zlet (zrd σ 287 x4.toNat) fun v3 =>
    zck x4 25 <| zlet (zst σ 289 x4.toNat v3) fun σ4 =>
    R0 x1 x2 x3 (zw (x4 + 1)) σ4
def fM_strangeOf_59 : Nat → Int → Int → Int → Zm → (Int → Int → Zm → Zr) → Zr
  | 0, _, _, _, _, _ => none
  | n + 1, x3, x4, x5, σ, K98 =>
    zlet (fun (x3 : Int) (x4 : Int) (x5 : Int) (σ : Zm) => fM_strangeOf_59 n x3 x4 x5 σ K98) fun R0 =>
    if 25 ≤ x5 then
      K98 x3 x4 σ
    else
    zck x5 25 <| zlet (zrd σ 287 x5.toNat) fun v10 =>
    if v10 ≤ x4 then
      R0 x3 x4 (zw (x5 + 1)) σ
    else
    zck x5 25 <| zlet (zrd σ 287 x5.toNat) fun v11 =>
    R0 x3 v11 (zw (x5 + 1)) σ
def fM_strangeOf_115 : Nat → Int → Int → Int → Int → Zm → Zr
  | 0, _, _, _, _, _ => none
  | n + 1, x3, x4, x5, x6, σ =>
    zlet (fun (x3 : Int) (x4 : Int) (x5 : Int) (x6 : Int) (σ : Zm) => fM_strangeOf_115 n x3 x4 x5 x6 σ) fun R0 =>
    if 25 ≤ x6 then
      zdv x3 <|
      some (Int.tdiv x5 x3, σ)
    else
    zck x6 25 <| zlet (zrd σ 289 x6.toNat) fun v15 =>
    zck x6 25 <| zlet (zrd σ 287 x6.toNat) fun v16 =>
    zdv x4 <|
    zlet (zw (x5 + (v15 * (1000 - (Int.tdiv (zw (1000 * v16)) x4))))) fun v17 =>
    R0 x3 x4 v17 (zw (x6 + 1)) σ
def fM_strangeOf (σ : Zm) (x1 : Int) (x2 : Int) : Zr :=
  zbv (fM_learn σ (zshl 1 x2)) fun σ1 =>
  zlet (zrd σ1 273 38) fun v2 =>
  fM_strangeOf_15 5000 x1 x2 v2 0 σ1 fun y6 y7 y8 σ5 =>
  zbv (fM_learn σ5 (zand y6 (zxor (zshl 1 y7) (-1)))) fun σ9 =>
  fM_strangeOf_59 5000 y8 0 0 σ9 fun y13 y14 σ12 =>
  if y13 = 0 then
    some ((-1), σ12)
  else
  if ¬ y14 = 0 then
    fM_strangeOf_115 5000 y13 y14 0 0 σ12
  else
  some ((-1), σ12)
def fM_strange (σ : Zm) (x1 : Int) (x2 : Int) : Zr :=
  zbi (fM_isSet σ x1) fun v2 σ1 =>
  if v2 = 0 then
    some ((-1), σ1)
  else
  zbi (fM_isPiece σ1 x2) fun v4 σ3 =>
  if v4 = 0 then
    some ((-1), σ3)
  else
  zbi (fM_strangeOf σ3 x1 x2) fun v6 σ5 =>
  some (v6, σ5)
def fM_follows_111 : Nat → Int → Int → Int → Int → Int → Zm → (Int → Int → Int → Int → Zm → Zr) → Zr
  | 0, _, _, _, _, _, _, _ => none
  | n + 1, x4, x7, x8, x9, x10, σ, K142 =>
    zlet (fun (x4 : Int) (x7 : Int) (x8 : Int) (x9 : Int) (x10 : Int) (σ : Zm) => fM_follows_111 n x4 x7 x8 x9 x10 σ K142) fun R0 =>
    if 25 ≤ x10 then
      K142 x4 x7 x8 x9 σ
    else
    zck (zw ((25 * x8) + x10)) 625 <| zlet (zrd σ 288 (zw ((25 * x8) + x10)).toNat) fun v22 =>
    zlet (zw (x9 + v22)) fun v23 =>
    R0 x4 x7 x8 v23 (zw (x10 + 1)) σ
def fM_follows_66 (x1 : Int) (x3 : Int) (x4 : Int) (x5 : Int) (x6 : Int) (σ : Zm) : Zr :=
  if 0 ≤ x6 then
    zbi (fM_pitchAt σ x3 x5) fun v15 σ14 =>
    zbi (fM_pitchAt σ14 x3 x6) fun v17 σ16 =>
    zbi (fM_held12 σ16 (zw (v15 - v17))) fun v19 σ18 =>
    zlet (zw (v19 + 12)) fun v20 =>
    zbv (fM_learn σ18 x1) fun σ21 =>
    fM_follows_111 5000 x4 v15 v20 0 0 σ21 fun y25 y26 y27 y28 σ24 =>
    if ¬ y28 = 0 then
      zbi (fM_held12 σ24 (zw (y25 - y26))) fun v30 σ29 =>
      zck (zw (((25 * y27) + v30) + 12)) 625 <| zlet (zrd σ29 288 (zw (((25 * y27) + v30) + 12)).toNat) fun v31 =>
      zdv y28 <|
      some (Int.tdiv (zw (1000 * v31)) y28, σ29)
    else
    some ((-1), σ24)
  else
  some ((-1), σ)
def fM_follows (σ : Zm) (x1 : Int) (x2 : Int) (x3 : Int) (x4 : Int) : Zr :=
  zbi (fM_isSet σ x1) fun v2 σ1 =>
  if v2 = 0 then
    some ((-1), σ1)
  else
  zbi (fM_isPiece σ1 x2) fun v4 σ3 =>
  if v4 = 0 then
    some ((-1), σ3)
  else
  zbi (fM_isVoice σ3 x3) fun v6 σ5 =>
  if v6 = 0 then
    some ((-1), σ5)
  else
  zbi (fM_isIn σ5 x4 0 60) fun v8 σ7 =>
  if ¬ v8 = 0 then
    zbv (fM_layPiece σ7 x2) fun σ9 =>
    zbi (fM_beganAhead σ9 x3 32) fun v11 σ10 =>
    if 0 ≤ v11 then
      zbi (fM_beganAhead σ10 x3 v11) fun v13 σ12 =>
      fM_follows_66 x1 x3 x4 v11 v13 σ12
    else
    fM_follows_66 x1 x3 x4 v11 (-1) σ10
  else
  some ((-1), σ7)
def fM_never_64 : Nat → Int → Int → Int → Zm → Zr
  | 0, _, _, _, _ => none
  | n + 1, x5, x6, x7, σ =>
    zlet (fun (x5 : Int) (x6 : Int) (x7 : Int) (σ : Zm) => fM_never_64 n x5 x6 x7 σ) fun R0 =>
    if 60 < x7 then
      some (x6, σ)
    else
    zbi (fM_held12 σ (zw (x7 - x5))) fun v14 σ13 =>
    zck (zw (v14 + 12)) 25 <| zlet (zrd σ13 287 (zw (v14 + 12)).toNat) fun v15 =>
    if ¬ v15 = 0 then
      zlet (zw (x6 + 0)) fun v16 =>
      R0 x5 v16 (zw (x7 + 1)) σ13
    else
    zlet (zw (x6 + 1)) fun v17 =>
    R0 x5 v17 (zw (x7 + 1)) σ13
def fM_never (σ : Zm) (x1 : Int) (x2 : Int) (x3 : Int) : Zr :=
  zbi (fM_isSet σ x1) fun v2 σ1 =>
  if v2 = 0 then
    some ((-1), σ1)
  else
  zbi (fM_isPiece σ1 x2) fun v4 σ3 =>
  if v4 = 0 then
    some ((-1), σ3)
  else
  zbi (fM_isVoice σ3 x3) fun v6 σ5 =>
  if ¬ v6 = 0 then
    zbv (fM_layPiece σ5 x2) fun σ7 =>
    zbi (fM_beganAhead σ7 x3 32) fun v9 σ8 =>
    if 0 ≤ v9 then
      zbi (fM_pitchAt σ8 x3 v9) fun v11 σ10 =>
      zbv (fM_learn σ10 x1) fun σ12 =>
      fM_never_64 5000 v11 0 0 σ12
    else
    some ((-1), σ8)
  else
  some ((-1), σ5)
def fM_hand (σ : Zm) (x1 : Int) (x2 : Int) : Zr :=
  zbi (fM_isPiece σ x1) fun v2 σ1 =>
  if v2 = 0 then
    some (0, σ1)
  else
  zbi (fM_isIn σ1 x2 (-1) 3) fun v4 σ3 =>
  if ¬ v4 = 0 then
    zck (zw (610 + x1)) 700 <| zlet (zst σ3 274 (zw (610 + x1)).toNat x2) fun σ5 =>
    some (1, σ5)
  else
  some (0, σ3)
def fM_apartOf_13 : Nat → Int → Int → Int → Zm → (Int → Int → Zm → Zr) → Zr
  | 0, _, _, _, _, _ => none
  | n + 1, x2, x3, x4, σ, K40 =>
    zlet (fun (x2 : Int) (x3 : Int) (x4 : Int) (σ : Zm) => fM_apartOf_13 n x2 x3 x4 σ K40) fun R0 =>
    if 25 ≤ x4 then
      K40 x2 x3 σ
    else
    zck x4 25 <| zlet (zrd σ 287 x4.toNat) fun v3 =>
    zck x4 25 <| zlet (zst σ 289 x4.toNat v3) fun σ4 =>
    R0 x2 x3 (zw (x4 + 1)) σ4
def fM_apartOf_64 : Nat → Int → Int → Int → Zm → Zr
  | 0, _, _, _, _ => none
  | n + 1, x3, x4, x5, σ =>
    zlet (fun (x3 : Int) (x4 : Int) (x5 : Int) (σ : Zm) => fM_apartOf_64 n x3 x4 x5 σ) fun R0 =>
    if 25 ≤ x5 then
      some (x4, σ)
    else
    zck x5 25 <| zlet (zrd σ 289 x5.toNat) fun v10 =>
    zdv x3 <|
    zck x5 25 <| zlet (zrd σ 287 x5.toNat) fun v11 =>
    zlet (zrd σ 273 38) fun v12 =>
    zdv v12 <|
    zbi (fM_abs σ (zw ((Int.tdiv (zw (1000 * v10)) x3) - (Int.tdiv (zw (1000 * v11)) v12)))) fun v14 σ13 =>
    zlet (zw (x4 + v14)) fun v15 =>
    R0 x3 v15 (zw (x5 + 1)) σ13
def fM_apartOf (σ : Zm) (x1 : Int) (x2 : Int) : Zr :=
  zbv (fM_learn σ x1) fun σ1 =>
  zlet (zrd σ1 273 38) fun v2 =>
  fM_apartOf_13 5000 x2 v2 0 σ1 fun y6 y7 σ5 =>
  zbv (fM_learn σ5 y6) fun σ8 =>
  if y7 = 0 then
    some ((-1), σ8)
  else
  zlet (zrd σ8 273 38) fun v9 =>
  if ¬ v9 = 0 then
    fM_apartOf_64 5000 y7 0 0 σ8
  else
  some ((-1), σ8)
def fM_apart (σ : Zm) (x1 : Int) (x2 : Int) : Zr :=
  zbi (fM_isSet σ x1) fun v2 σ1 =>
  if v2 = 0 then
    some ((-1), σ1)
  else
  zbi (fM_isSet σ1 x2) fun v4 σ3 =>
  if v4 = 0 then
    some ((-1), σ3)
  else
  zbi (fM_apartOf σ3 x1 x2) fun v6 σ5 =>
  some (v6, σ5)
def fM_whose_38 : Nat → Int → Int → Int → Int → Int → Int → Int → Zm → (Int → Int → Int → Int → Int → Int → Zm → Zr) → Zr
  | 0, _, _, _, _, _, _, _, _, _ => none
  | n + 1, x1, x2, x3, x4, x5, x6, x7, σ, K81 =>
    zlet (fun (x1 : Int) (x2 : Int) (x3 : Int) (x4 : Int) (x5 : Int) (x6 : Int) (x7 : Int) (σ : Zm) => fM_whose_38 n x1 x2 x3 x4 x5 x6 x7 σ K81) fun R0 =>
    if 4 ≤ x7 then
      K81 x1 x2 x3 x4 x5 x6 σ
    else
    if x7 = x1 then
      R0 x1 x2 x3 x4 x5 x6 (zw (x7 + 1)) σ
    else
    zck (zw (610 + x7)) 700 <| zlet (zrd σ 274 (zw (610 + x7)).toNat) fun v5 =>
    if ¬ v5 = x5 then
      R0 x1 x2 x3 x4 x5 x6 (zw (x7 + 1)) σ
    else
    R0 x1 x2 x3 x4 x5 (zor x6 (zshl 1 x7)) (zw (x7 + 1)) σ
def fM_whose_26 : Nat → Int → Int → Int → Int → Int → Zm → Zr
  | 0, _, _, _, _, _, _ => none
  | n + 1, x1, x2, x3, x4, x5, σ =>
    zlet (fun (x1 : Int) (x2 : Int) (x3 : Int) (x4 : Int) (x5 : Int) (σ : Zm) => fM_whose_26 n x1 x2 x3 x4 x5 σ) fun R0 =>
    if 4 ≤ x5 then
      if ¬ x2 = 0 then
        some (x4, σ)
      else
      some (x3, σ)
    else
    fM_whose_38 5000 x1 x2 x3 x4 x5 0 0 σ fun y7 y8 y9 y10 y11 y12 σ6 =>
    zbi (fM_apartOf σ6 (zshl 1 y7) y12) fun v14 σ13 =>
    if v14 < 0 then
      R0 y7 y8 y9 y10 (zw (y11 + 1)) σ13
    else
    if y10 < 0 then
      R0 y7 y8 y11 v14 (zw (y11 + 1)) σ13
    else
    if v14 < y10 then
      R0 y7 y8 y11 v14 (zw (y11 + 1)) σ13
    else
    R0 y7 y8 y9 y10 (zw (y11 + 1)) σ13
def fM_whose (σ : Zm) (x1 : Int) (x2 : Int) : Zr :=
  zbi (fM_isPiece σ x1) fun v2 σ1 =>
  if v2 = 0 then
    some ((-1), σ1)
  else
  zbi (fM_isIn σ1 x2 0 1) fun v4 σ3 =>
  if ¬ v4 = 0 then
    fM_whose_26 5000 x1 x2 (-1) (-1) 0 σ3
  else
  some ((-1), σ3)
def fM_isEnding_19 : Nat → Int → Int → Int → Int → Int → Zm → (Int → Int → Int → Int → Zm → Zr) → Zr
  | 0, _, _, _, _, _, _, _ => none
  | n + 1, x1, x2, x3, x4, x5, σ, K62 =>
    zlet (fun (x1 : Int) (x2 : Int) (x3 : Int) (x4 : Int) (x5 : Int) (σ : Zm) => fM_isEnding_19 n x1 x2 x3 x4 x5 σ K62) fun R0 =>
    if x3 ≤ x5 then
      K62 x1 x2 x3 x4 σ
    else
    zbi (fM_spot σ x2 x4 x5) fun v2 σ1 =>
    zck v2 700 <| zlet (zrd σ1 274 v2.toNat) fun v3 =>
    zbi (fM_spot σ1 x1 x4 x5) fun v5 σ4 =>
    zck v5 700 <| zlet (zrd σ4 274 v5.toNat) fun v6 =>
    if v3 = v6 then
      R0 x1 x2 x3 x4 (zw (x5 + 1)) σ4
    else
    some (0, σ4)
def fM_isEnding_10 : Nat → Int → Int → Int → Int → Zm → Zr
  | 0, _, _, _, _, _ => none
  | n + 1, x1, x2, x3, x4, σ =>
    zlet (fun (x1 : Int) (x2 : Int) (x3 : Int) (x4 : Int) (σ : Zm) => fM_isEnding_10 n x1 x2 x3 x4 σ) fun R0 =>
    if 4 ≤ x4 then
      some (1, σ)
    else
    fM_isEnding_19 5000 x1 x2 x3 x4 0 σ fun y8 y9 y10 y11 σ7 =>
    R0 y8 y9 y10 (zw (y11 + 1)) σ7
def fM_isEnding (σ : Zm) (x1 : Int) (x2 : Int) (x3 : Int) : Zr :=
  if ¬ x2 = x1 then
    fM_isEnding_10 5000 x1 x2 x3 0 σ
  else
  some (0, σ)
def fM_worthOf (σ : Zm) (x1 : Int) (x2 : Int) (x3 : Int) (x4 : Int) : Zr :=
  zbi (fM_strangeOf σ x2 x3) fun v2 σ1 =>
  zbv (fM_layPiece σ1 x3) fun σ3 =>
  zbi (fM_judge σ3 x1 x4 (-1)) fun v5 σ4 =>
  if 0 ≤ v2 then
    some (v5 + v2, σ4)
  else
  some (v5 + 0, σ4)
def fM_endings_104 : Nat → Int → Int → Int → Int → Int → Int → Int → Int → Int → Zm → Zr
  | 0, _, _, _, _, _, _, _, _, _, _ => none
  | n + 1, x1, x2, x3, x4, x5, x6, x7, x8, x9, σ =>
    zlet (fun (x1 : Int) (x2 : Int) (x3 : Int) (x4 : Int) (x5 : Int) (x6 : Int) (x7 : Int) (x8 : Int) (x9 : Int) (σ : Zm) => fM_endings_104 n x1 x2 x3 x4 x5 x6 x7 x8 x9 σ) fun R0 =>
    if 4 ≤ x9 then
      if ¬ x5 = 0 then
        some (x7, σ)
      else
      some (x6, σ)
    else
    zbi (fM_isEnding σ x3 x9 x4) fun v14 σ13 =>
    if ¬ v14 = 0 then
      zbi (fM_worthOf σ13 x1 x2 x9 x4) fun v16 σ15 =>
      if x7 < 0 then
        R0 x1 x2 x3 x4 x5 (zw (x6 + 1)) x9 v16 (zw (x9 + 1)) σ15
      else
      if v16 < x8 then
        R0 x1 x2 x3 x4 x5 (zw (x6 + 1)) x9 v16 (zw (x9 + 1)) σ15
      else
      R0 x1 x2 x3 x4 x5 (zw (x6 + 1)) x7 x8 (zw (x9 + 1)) σ15
    else
    R0 x1 x2 x3 x4 x5 x6 x7 x8 (zw (x9 + 1)) σ13
def fM_endings (σ : Zm) (x1 : Int) (x2 : Int) (x3 : Int) (x4 : Int) (x5 : Int) : Zr :=
  zbi (fM_isText σ x1) fun v2 σ1 =>
  if v2 = 0 then
    some ((-1), σ1)
  else
  zbi (fM_isSet σ1 x2) fun v4 σ3 =>
  if v4 = 0 then
    some ((-1), σ3)
  else
  zbi (fM_isPiece σ3 x3) fun v6 σ5 =>
  if v6 = 0 then
    some ((-1), σ5)
  else
  zbi (fM_isIn σ5 x4 0 31) fun v8 σ7 =>
  if ¬ v8 = 0 then
    zbi (fM_isIn σ7 x5 10 13) fun v10 σ9 =>
    if v10 = 0 then
      zbi (fM_isIn σ9 x5 0 1) fun v12 σ11 =>
      if ¬ v12 = 0 then
        fM_endings_104 5000 x1 x2 x3 x4 x5 0 (-1) 0 0 σ11
      else
      some ((-1), σ11)
    else
    zbi (fM_isEnding σ9 x3 (zw (x5 - 10)) x4) fun v18 σ17 =>
    if v18 = 0 then
      some ((-1), σ17)
    else
    zbi (fM_worthOf σ17 x1 x2 (zw (x5 - 10)) x4) fun v20 σ19 =>
    some (v20, σ19)
  else
  some ((-1), σ7)
def fM_cheap (σ : Zm) (x1 : Int) (x2 : Int) (x3 : Int) : Zr :=
  zck (zw (((225 * x1) + (15 * x2)) + x3)) 1350 <| zlet (zrd σ 290 (zw (((225 * x1) + (15 * x2)) + x3)).toNat) fun v1 =>
  some (v1, σ)
def fM_costAt_18 : Nat → Int → Int → Int → Int → Zm → (Int → Int → Int → Zm → Zr) → Zr
  | 0, _, _, _, _, _, _ => none
  | n + 1, x1, x2, x3, x4, σ, K66 =>
    zlet (fun (x1 : Int) (x2 : Int) (x3 : Int) (x4 : Int) (σ : Zm) => fM_costAt_18 n x1 x2 x3 x4 σ K66) fun R0 =>
    if 4 ≤ x4 then
      K66 x1 x2 x3 σ
    else
    if x4 = x2 then
      R0 x1 x2 x3 (zw (x4 + 1)) σ
    else
    if x2 ≤ x4 then
      if x2 ≤ x4 then
        zbv (fM_judgePair σ x1 x2 x4 x3) fun σ4 =>
        R0 x1 x2 x3 (zw (x4 + 1)) σ4
      else
      zbv (fM_judgePair σ x1 x2 x2 x3) fun σ5 =>
      R0 x1 x2 x3 (zw (x4 + 1)) σ5
    else
    if x2 ≤ x4 then
      zbv (fM_judgePair σ x1 x4 x4 x3) fun σ6 =>
      R0 x1 x2 x3 (zw (x4 + 1)) σ6
    else
    zbv (fM_judgePair σ x1 x4 x2 x3) fun σ7 =>
    R0 x1 x2 x3 (zw (x4 + 1)) σ7
def fM_costAt (σ : Zm) (x1 : Int) (x2 : Int) (x3 : Int) : Zr :=
  zlet (zst σ 273 26 0) fun σ1 =>
  zlet (zst σ1 273 27 0) fun σ2 =>
  zlet (zst σ2 273 28 (-1)) fun σ3 =>
  fM_costAt_18 5000 x1 x2 x3 0 σ3 fun y9 y10 y11 σ8 =>
  zbv (fM_judgeLine σ8 y9 y10 y11) fun σ12 =>
  zlet (zrd σ12 273 27) fun v13 =>
  some (v13, σ12)
def fM_put (σ : Zm) (x1 : Int) (x2 : Int) (x3 : Int) : Zr :=
  zck (zw ((32 * x1) + x2)) 128 <| zlet (zst σ 282 (zw ((32 * x1) + x2)).toNat x3) fun σ1 =>
  zck (zw ((32 * x1) + x2)) 128 <| zlet (zst σ1 283 (zw ((32 * x1) + x2)).toNat 1) fun σ2 =>
  some (0, σ2)
def fM_costOf_49 (x1 : Int) (x2 : Int) (x3 : Int) (x4 : Int) (x5 : Int) (x8 : Int) (σ : Zm) : Zr :=
  zbv (fM_put σ x2 (zw (x3 + x4)) (zw ((x5 + x8) - 7))) fun σ1 =>
  zbi (fM_costAt σ1 x1 x2 (zw (x3 + x4))) fun v3 σ2 =>
  some (v3, σ2)
def fM_costOf_25 (x1 : Int) (x2 : Int) (x3 : Int) (x4 : Int) (x5 : Int) (x7 : Int) (x8 : Int) (σ : Zm) : Zr :=
  if x4 ≤ 0 then
    fM_costOf_49 x1 x2 x3 x4 x5 x8 σ
  else
  zbv (fM_put σ x2 (zw ((x3 + x4) - 1)) (zw ((x5 + x7) - 7))) fun σ4 =>
  fM_costOf_49 x1 x2 x3 x4 x5 x8 σ4
def fM_costOf (σ : Zm) (x1 : Int) (x2 : Int) (x3 : Int) (x4 : Int) (x5 : Int) (x6 : Int) (x7 : Int) (x8 : Int) : Zr :=
  if x4 ≤ 1 then
    fM_costOf_25 x1 x2 x3 x4 x5 x7 x8 σ
  else
  zbv (fM_put σ x2 (zw ((x3 + x4) - 2)) (zw ((x5 + x6) - 7))) fun σ5 =>
  fM_costOf_25 x1 x2 x3 x4 x5 x7 x8 σ5
def fM_bestAt_81 (R0 : Int → Int → Int → Int → Int → Int → Int → Int → Int → Int → Int → Zm → Zr) (K110 : Int → Int → Int → Int → Int → Zm → Zr) (x1 : Int) (x2 : Int) (x3 : Int) (x4 : Int) (x5 : Int) (x6 : Int) (x7 : Int) (x8 : Int) (x9 : Int) (x10 : Int) (x11 : Int) (x12 : Int) (σ : Zm) : Zr :=
  if x9 < 0 then
    R0 x1 x2 x3 x4 x5 x6 x7 x8 x11 x12 (zw (x11 + 1)) σ
  else
  if x12 < x10 then
    R0 x1 x2 x3 x4 x5 x6 x7 x8 x11 x12 (zw (x11 + 1)) σ
  else
  R0 x1 x2 x3 x4 x5 x6 x7 x8 x9 x10 (zw (x11 + 1)) σ
def fM_bestAt_9 : Nat → Int → Int → Int → Int → Int → Int → Int → Int → Int → Int → Int → Zm → (Int → Int → Int → Int → Int → Zm → Zr) → Zr
  | 0, _, _, _, _, _, _, _, _, _, _, _, _, _ => none
  | n + 1, x1, x2, x3, x4, x5, x6, x7, x8, x9, x10, x11, σ, K110 =>
    zlet (fun (x1 : Int) (x2 : Int) (x3 : Int) (x4 : Int) (x5 : Int) (x6 : Int) (x7 : Int) (x8 : Int) (x9 : Int) (x10 : Int) (x11 : Int) (σ : Zm) => fM_bestAt_9 n x1 x2 x3 x4 x5 x6 x7 x8 x9 x10 x11 σ K110) fun R0 =>
    if 15 ≤ x11 then
      K110 x5 x7 x8 x9 x10 σ
    else
    zbi (fM_isIn σ (zw ((x6 + x11) - 7)) 0 60) fun v2 σ1 =>
    if ¬ v2 = 0 then
      zbi (fM_costOf σ1 x1 x2 x3 x5 x6 x7 x8 x11) fun v4 σ3 =>
      if x4 ≤ zw (x5 + 1) then
        zlet (zw (v4 + 0)) fun v5 =>
        fM_bestAt_81 R0 K110 x1 x2 x3 x4 x5 x6 x7 x8 x9 x10 x11 v5 σ3
      else
      zbi (fM_cheap σ3 (zw (x5 + 1)) x8 x11) fun v7 σ6 =>
      zlet (zw (v4 + v7)) fun v8 =>
      fM_bestAt_81 R0 K110 x1 x2 x3 x4 x5 x6 x7 x8 x9 x10 x11 v8 σ6
    else
    R0 x1 x2 x3 x4 x5 x6 x7 x8 x9 x10 (zw (x11 + 1)) σ1
def fM_bestAt (σ : Zm) (x1 : Int) (x2 : Int) (x3 : Int) (x4 : Int) (x5 : Int) (x6 : Int) (x7 : Int) (x8 : Int) : Zr :=
  fM_bestAt_9 5000 x1 x2 x3 x4 x5 x6 x7 x8 (-1) 0 0 σ fun y10 y11 y12 y13 y14 σ9 =>
  zck (zw (((225 * y10) + (15 * y11)) + y12)) 1350 <| zlet (zst σ9 290 (zw (((225 * y10) + (15 * y11)) + y12)).toNat y14) fun σ15 =>
  some (y13, σ15)
def fM_made_56 : Nat → Int → Int → Int → Int → Int → Zm → (Int → Int → Int → Int → Int → Zm → Zr) → Zr
  | 0, _, _, _, _, _, _, _ => none
  | n + 1, x1, x3, x4, x5, x6, σ, K79 =>
    zlet (fun (x1 : Int) (x3 : Int) (x4 : Int) (x5 : Int) (x6 : Int) (σ : Zm) => fM_made_56 n x1 x3 x4 x5 x6 σ K79) fun R0 =>
    if x6 ≤ 0 then
      K79 x1 x3 x4 x5 x6 σ
    else
    zbi (fM_sounds σ x3 (zw (x6 - 1))) fun v13 σ12 =>
    if ¬ v13 = 0 then
      K79 x1 x3 x4 x5 x6 σ12
    else
    R0 x1 x3 x4 x5 (zw (x6 + (-1))) σ12
def fM_made_204 (R0 : Int → Int → Int → Int → Int → Int → Int → Int → Int → Zm → Zr) (K234 : Int → Int → Int → Int → Int → Int → Int → Int → Zm → Zr) (x1 : Int) (x3 : Int) (x4 : Int) (x5 : Int) (x6 : Int) (x7 : Int) (x8 : Int) (x9 : Int) (x10 : Int) (x11 : Int) (σ : Zm) : Zr :=
  if x11 = 0 then
    R0 x1 x3 x4 x5 x6 x7 x8 x9 (zw (x10 + 1)) σ
  else
  zbi (fM_bestAt σ x1 x3 x6 x4 x8 x7 x9 x10) fun v26 σ25 =>
  R0 x1 x3 x4 x5 x6 x7 x8 x9 (zw (x10 + 1)) σ25
def fM_made_201 (R0 : Int → Int → Int → Int → Int → Int → Int → Int → Int → Zm → Zr) (K234 : Int → Int → Int → Int → Int → Int → Int → Int → Zm → Zr) (x1 : Int) (x3 : Int) (x4 : Int) (x5 : Int) (x6 : Int) (x7 : Int) (x8 : Int) (x9 : Int) (x10 : Int) (σ : Zm) : Zr :=
  fM_made_204 R0 K234 x1 x3 x4 x5 x6 x7 x8 x9 x10 0 σ
def fM_made_197 (R0 : Int → Int → Int → Int → Int → Int → Int → Int → Int → Zm → Zr) (K234 : Int → Int → Int → Int → Int → Int → Int → Int → Zm → Zr) (x1 : Int) (x3 : Int) (x4 : Int) (x5 : Int) (x6 : Int) (x7 : Int) (x8 : Int) (x9 : Int) (x10 : Int) (σ : Zm) : Zr :=
  fM_made_204 R0 K234 x1 x3 x4 x5 x6 x7 x8 x9 x10 1 σ
def fM_made_184 (R0 : Int → Int → Int → Int → Int → Int → Int → Int → Int → Zm → Zr) (K234 : Int → Int → Int → Int → Int → Int → Int → Int → Zm → Zr) (x1 : Int) (x3 : Int) (x4 : Int) (x5 : Int) (x6 : Int) (x7 : Int) (x8 : Int) (x9 : Int) (x10 : Int) (σ : Zm) : Zr :=
  if 1 < x8 then
    fM_made_197 R0 K234 x1 x3 x4 x5 x6 x7 x8 x9 x10 σ
  else
  if ¬ x9 = 7 then
    fM_made_201 R0 K234 x1 x3 x4 x5 x6 x7 x8 x9 x10 σ
  else
  fM_made_197 R0 K234 x1 x3 x4 x5 x6 x7 x8 x9 x10 σ
def fM_made_131 : Nat → Int → Int → Int → Int → Int → Int → Int → Int → Int → Zm → (Int → Int → Int → Int → Int → Int → Int → Int → Zm → Zr) → Zr
  | 0, _, _, _, _, _, _, _, _, _, _, _ => none
  | n + 1, x1, x3, x4, x5, x6, x7, x8, x9, x10, σ, K234 =>
    zlet (fun (x1 : Int) (x3 : Int) (x4 : Int) (x5 : Int) (x6 : Int) (x7 : Int) (x8 : Int) (x9 : Int) (x10 : Int) (σ : Zm) => fM_made_131 n x1 x3 x4 x5 x6 x7 x8 x9 x10 σ K234) fun R0 =>
    if 15 ≤ x10 then
      K234 x1 x3 x4 x5 x6 x7 x8 x9 σ
    else
    zbi (fM_isIn σ (zw ((x7 + x9) - 7)) 0 60) fun v24 σ23 =>
    if v24 = 0 then
      fM_made_201 R0 K234 x1 x3 x4 x5 x6 x7 x8 x9 x10 σ23
    else
    zbi (fM_isIn σ23 (zw ((x7 + x10) - 7)) 0 60) fun v28 σ27 =>
    if v28 = 0 then
      fM_made_201 R0 K234 x1 x3 x4 x5 x6 x7 x8 x9 x10 σ27
    else
    if 0 < x8 then
      fM_made_184 R0 K234 x1 x3 x4 x5 x6 x7 x8 x9 x10 σ27
    else
    if ¬ x10 = 7 then
      fM_made_201 R0 K234 x1 x3 x4 x5 x6 x7 x8 x9 x10 σ27
    else
    fM_made_184 R0 K234 x1 x3 x4 x5 x6 x7 x8 x9 x10 σ27
def fM_made_121 : Nat → Int → Int → Int → Int → Int → Int → Int → Int → Zm → (Int → Int → Int → Int → Int → Int → Int → Zm → Zr) → Zr
  | 0, _, _, _, _, _, _, _, _, _, _ => none
  | n + 1, x1, x3, x4, x5, x6, x7, x8, x9, σ, K240 =>
    zlet (fun (x1 : Int) (x3 : Int) (x4 : Int) (x5 : Int) (x6 : Int) (x7 : Int) (x8 : Int) (x9 : Int) (σ : Zm) => fM_made_121 n x1 x3 x4 x5 x6 x7 x8 x9 σ K240) fun R0 =>
    if 15 ≤ x9 then
      K240 x1 x3 x4 x5 x6 x7 x8 σ
    else
    fM_made_131 5000 x1 x3 x4 x5 x6 x7 x8 x9 0 σ fun y30 y31 y32 y33 y34 y35 y36 y37 σ29 =>
    R0 y30 y31 y32 y33 y34 y35 y36 (zw (y37 + 1)) σ29
def fM_made_113 : Nat → Int → Int → Int → Int → Int → Int → Int → Zm → (Int → Int → Int → Int → Int → Int → Zm → Zr) → Zr
  | 0, _, _, _, _, _, _, _, _, _ => none
  | n + 1, x1, x3, x4, x5, x6, x7, x8, σ, K246 =>
    zlet (fun (x1 : Int) (x3 : Int) (x4 : Int) (x5 : Int) (x6 : Int) (x7 : Int) (x8 : Int) (σ : Zm) => fM_made_113 n x1 x3 x4 x5 x6 x7 x8 σ K246) fun R0 =>
    if x8 < 0 then
      K246 x1 x3 x4 x5 x6 x7 σ
    else
    fM_made_121 5000 x1 x3 x4 x5 x6 x7 x8 0 σ fun y39 y40 y41 y42 y43 y44 y45 σ38 =>
    R0 y39 y40 y41 y42 y43 y44 (zw (y45 + (-1))) σ38
def fM_made_273 : Nat → Int → Int → Int → Int → Int → Int → Int → Int → Int → Zm → (Int → Int → Int → Int → Int → Int → Int → Int → Zm → Zr) → Zr
  | 0, _, _, _, _, _, _, _, _, _, _, _ => none
  | n + 1, x1, x3, x4, x5, x6, x7, x8, x9, x10, σ, K324 =>
    zlet (fun (x1 : Int) (x3 : Int) (x4 : Int) (x5 : Int) (x6 : Int) (x7 : Int) (x8 : Int) (x9 : Int) (x10 : Int) (σ : Zm) => fM_made_273 n x1 x3 x4 x5 x6 x7 x8 x9 x10 σ K324) fun R0 =>
    if x5 ≤ x10 then
      K324 x1 x3 x4 x5 x6 x7 x8 x9 σ
    else
    zbi (fM_bestAt σ x1 x3 x6 x4 x10 x7 x8 x9) fun v54 σ53 =>
    if ¬ x10 = 0 then
      R0 x1 x3 x4 x5 x6 x7 x9 v54 (zw (x10 + 1)) σ53
    else
    R0 x1 x3 x4 x5 x6 x7 7 v54 (zw (x10 + 1)) σ53
def fM_made_79 (x1 : Int) (x3 : Int) (x4 : Int) (x5 : Int) (x6 : Int) (σ : Zm) : Zr :=
  if x6 = 0 then
    some ((-1), σ)
  else
  if zw (x6 + x4) ≤ 32 then
    zbi (fM_pitchAt σ x3 (zw (x6 - 1))) fun v21 σ20 =>
    zlet (zw (x4 - 1)) fun v22 =>
    fM_made_113 5000 x1 x3 x4 x5 x6 v21 v22 σ20 fun y47 y48 y49 y50 y51 y52 σ46 =>
    if ¬ y50 = (-1) then
      fM_made_273 5000 y47 y48 y49 y50 y51 y52 7 7 0 σ46 fun y56 y57 y58 y59 y60 y61 y62 y63 σ55 =>
      zbi (fM_bestAt σ55 y56 y57 y60 y58 y59 y61 y62 y63) fun v65 σ64 =>
      some ((y61 + v65) - 7, σ64)
    else
    zbi (fM_cheap σ46 0 7 7) fun v67 σ66 =>
    some (v67, σ66)
  else
  some ((-1), σ)
def fM_made (σ : Zm) (x1 : Int) (x2 : Int) (x3 : Int) (x4 : Int) (x5 : Int) : Zr :=
  zbi (fM_isText σ x1) fun v2 σ1 =>
  if v2 = 0 then
    some ((-1), σ1)
  else
  zbi (fM_isPiece σ1 x2) fun v4 σ3 =>
  if v4 = 0 then
    some ((-1), σ3)
  else
  zbi (fM_isVoice σ3 x3) fun v6 σ5 =>
  if v6 = 0 then
    some ((-1), σ5)
  else
  zbi (fM_isIn σ5 x4 1 5) fun v8 σ7 =>
  if v8 = 0 then
    some ((-1), σ7)
  else
  zbi (fM_isIn σ7 x5 (-1) (zw (x4 - 1))) fun v10 σ9 =>
  if ¬ v10 = 0 then
    zbv (fM_layPiece σ9 x2) fun σ11 =>
    fM_made_56 5000 x1 x3 x4 x5 32 σ11 fun y15 y16 y17 y18 y19 σ14 =>
    fM_made_79 y15 y16 y17 y18 y19 σ14
  else
  some ((-1), σ9)
def fM_head_118 (R0 : Int → Int → Int → Int → Int → Int → Int → Zm → Zr) (K168 : Int → Int → Int → Int → Int → Int → Zm → Zr) (x1 : Int) (x2 : Int) (x3 : Int) (x4 : Int) (x5 : Int) (x6 : Int) (x7 : Int) (x8 : Int) (x9 : Int) (σ : Zm) : Zr :=
  zck (zw ((32 * (3 - x6)) + x7)) 128 <| zlet (zst σ 282 (zw ((32 * (3 - x6)) + x7)).toNat x9) fun σ14 =>
  if 100 ≤ x8 then
    zck (zw ((32 * (3 - x6)) + x7)) 128 <| zlet (zst σ14 283 (zw ((32 * (3 - x6)) + x7)).toNat 0) fun σ15 =>
    R0 x1 x2 x3 x4 x5 x6 (zw (x7 + 1)) σ15
  else
  zck (zw ((32 * (3 - x6)) + x7)) 128 <| zlet (zst σ14 283 (zw ((32 * (3 - x6)) + x7)).toNat 1) fun σ16 =>
  R0 x1 x2 x3 x4 x5 x6 (zw (x7 + 1)) σ16
def fM_head_115 (R0 : Int → Int → Int → Int → Int → Int → Int → Zm → Zr) (K168 : Int → Int → Int → Int → Int → Int → Zm → Zr) (x1 : Int) (x2 : Int) (x3 : Int) (x4 : Int) (x6 : Int) (x7 : Int) (x8 : Int) (x9 : Int) (σ : Zm) : Zr :=
  fM_head_118 R0 K168 x1 x2 x3 x4 0 x6 x7 x8 x9 σ
def fM_head_56 : Nat → Int → Int → Int → Int → Int → Int → Int → Zm → (Int → Int → Int → Int → Int → Int → Zm → Zr) → Zr
  | 0, _, _, _, _, _, _, _, _, _ => none
  | n + 1, x1, x2, x3, x4, x5, x6, x7, σ, K168 =>
    zlet (fun (x1 : Int) (x2 : Int) (x3 : Int) (x4 : Int) (x5 : Int) (x6 : Int) (x7 : Int) (σ : Zm) => fM_head_56 n x1 x2 x3 x4 x5 x6 x7 σ K168) fun R0 =>
    if 32 ≤ x7 then
      K168 x1 x2 x3 x4 x5 x6 σ
    else
    zbi (fM_spot σ x2 x6 x7) fun v11 σ10 =>
    zck v11 700 <| zlet (zrd σ10 274 v11.toNat) fun v12 =>
    if 0 ≤ v12 then
      zlet (zw (x3 - (Int.tmod v12 100))) fun v13 =>
      if x5 = 0 then
        fM_head_115 R0 K168 x1 x2 x3 x4 x6 x7 v12 v13 σ10
      else
      zbi (fM_isIn σ10 v13 0 60) fun v18 σ17 =>
      if v18 = 0 then
        fM_head_115 R0 K168 x1 x2 x3 x4 x6 x7 v12 v13 σ17
      else
      fM_head_118 R0 K168 x1 x2 x3 x4 1 x6 x7 v12 v13 σ17
    else
    R0 x1 x2 x3 x4 x5 x6 (zw (x7 + 1)) σ10
def fM_head_47 : Nat → Int → Int → Int → Int → Int → Int → Zm → (Int → Int → Int → Zm → Zr) → Zr
  | 0, _, _, _, _, _, _, _, _ => none
  | n + 1, x1, x2, x3, x4, x5, x6, σ, K174 =>
    zlet (fun (x1 : Int) (x2 : Int) (x3 : Int) (x4 : Int) (x5 : Int) (x6 : Int) (σ : Zm) => fM_head_47 n x1 x2 x3 x4 x5 x6 σ K174) fun R0 =>
    if 4 ≤ x6 then
      K174 x1 x4 x5 σ
    else
    fM_head_56 5000 x1 x2 x3 x4 x5 x6 0 σ fun y20 y21 y22 y23 y24 y25 σ19 =>
    R0 y20 y21 y22 y23 y24 (zw (y25 + 1)) σ19
def fM_head (σ : Zm) (x1 : Int) (x2 : Int) (x3 : Int) (x4 : Int) : Zr :=
  zbi (fM_isText σ x1) fun v2 σ1 =>
  if v2 = 0 then
    some ((-1), σ1)
  else
  zbi (fM_isPiece σ1 x2) fun v4 σ3 =>
  if v4 = 0 then
    some ((-1), σ3)
  else
  zbi (fM_isIn σ3 x3 0 120) fun v6 σ5 =>
  if v6 = 0 then
    some ((-1), σ5)
  else
  zbi (fM_isIn σ5 x4 0 1) fun v8 σ7 =>
  if ¬ v8 = 0 then
    zbv (fM_clearSheet σ7) fun σ9 =>
    fM_head_47 5000 x1 x2 x3 x4 1 0 σ9 fun y27 y28 y29 σ26 =>
    if ¬ y28 = 0 then
      if y29 = 0 then
        some ((-1), σ26)
      else
      zbi (fM_judge σ26 y27 0 (-1)) fun v31 σ30 =>
      some (v31, σ30)
    else
    if y29 = 0 then
      some (0, σ26)
    else
    some (1, σ26)
  else
  some ((-1), σ7)
def fM_shape (σ : Zm) (x1 : Int) (x2 : Int) : Zr :=
  zbi (fM_isIn σ x2 1 9999) fun v2 σ1 =>
  if v2 = 0 then
    some ((-1), σ1)
  else
  zbi (fM_isIn σ1 x1 1 x2) fun v4 σ3 =>
  if v4 = 0 then
    some ((-1), σ3)
  else
  zck 3 700 <| zlet (zrd σ3 274 3) fun v5 =>
  if ¬ v5 = 10 then
    zck 3 700 <| zlet (zrd σ3 274 3) fun v6 =>
    zck (zw (620 + (2 * v6))) 700 <| zlet (zst σ3 274 (zw (620 + (2 * v6))).toNat x1) fun σ7 =>
    zck 3 700 <| zlet (zrd σ7 274 3) fun v8 =>
    zck (zw ((620 + (2 * v8)) + 1)) 700 <| zlet (zst σ7 274 (zw ((620 + (2 * v8)) + 1)).toNat x2) fun σ9 =>
    zck 3 700 <| zlet (zrd σ9 274 3) fun v10 =>
    zck 3 700 <| zlet (zst σ9 274 3 (v10 + 1)) fun σ11 =>
    zck 3 700 <| zlet (zrd σ11 274 3) fun v12 =>
    some (v12, σ11)
  else
  some ((-1), σ3)
def fM_lasts_30 : Nat → Int → Int → Int → Int → Zm → Zr
  | 0, _, _, _, _, _ => none
  | n + 1, x2, x3, x4, x5, σ =>
    zlet (fun (x2 : Int) (x3 : Int) (x4 : Int) (x5 : Int) (σ : Zm) => fM_lasts_30 n x2 x3 x4 x5 σ) fun R0 =>
    zck 3 700 <| zlet (zrd σ 274 3) fun v6 =>
    if v6 ≤ x5 then
      some (x4, σ)
    else
    zck (zw ((620 + (2 * x5)) + 1)) 700 <| zlet (zrd σ 274 (zw ((620 + (2 * x5)) + 1)).toNat) fun v7 =>
    zck (zw (620 + (2 * x5))) 700 <| zlet (zrd σ 274 (zw (620 + (2 * x5))).toNat) fun v8 =>
    zdv v8 <|
    zlet (zw (Int.tdiv (zw (x3 * v7)) v8)) fun v9 =>
    if x4 < 0 then
      R0 x2 x3 v9 (zw (x5 + 1)) σ
    else
    if x2 = 0 then
      if x4 ≤ v9 then
        R0 x2 x3 x4 (zw (x5 + 1)) σ
      else
      R0 x2 x3 v9 (zw (x5 + 1)) σ
    else
    if v9 ≤ x4 then
      R0 x2 x3 x4 (zw (x5 + 1)) σ
    else
    R0 x2 x3 v9 (zw (x5 + 1)) σ
def fM_lasts (σ : Zm) (x1 : Int) (x2 : Int) : Zr :=
  zbi (fM_isPiece σ x1) fun v2 σ1 =>
  if v2 = 0 then
    some ((-1), σ1)
  else
  zck 3 700 <| zlet (zrd σ1 274 3) fun v3 =>
  if ¬ v3 = 0 then
    zbi (fM_lengthOf σ1 x1) fun v5 σ4 =>
    fM_lasts_30 5000 x2 v5 (-1) 0 σ4
  else
  some ((-1), σ1)
def fM_page (σ : Zm) (x1 : Int) (x2 : Int) (x3 : Int) (x4 : Int) : Zr :=
  zbi (fM_isIn σ x1 0 99) fun v2 σ1 =>
  if v2 = 0 then
    some ((-1), σ1)
  else
  zbi (fM_isIn σ1 x2 0 9) fun v4 σ3 =>
  if v4 = 0 then
    some ((-1), σ3)
  else
  zbi (fM_isIn σ3 x3 0 9) fun v6 σ5 =>
  if v6 = 0 then
    some ((-1), σ5)
  else
  zbi (fM_isIn σ5 x4 0 9) fun v8 σ7 =>
  if v8 = 0 then
    some ((-1), σ7)
  else
  zck 2 700 <| zlet (zrd σ7 274 2) fun v9 =>
  if ¬ v9 = 8 then
    zck 2 700 <| zlet (zrd σ7 274 2) fun v10 =>
    zlet (zw (650 + (4 * v10))) fun v11 =>
    zck v11 700 <| zlet (zst σ7 274 v11.toNat x1) fun σ12 =>
    zck (zw (v11 + 1)) 700 <| zlet (zst σ12 274 (zw (v11 + 1)).toNat x2) fun σ13 =>
    zck (zw (v11 + 2)) 700 <| zlet (zst σ13 274 (zw (v11 + 2)).toNat x3) fun σ14 =>
    zck (zw (v11 + 3)) 700 <| zlet (zst σ14 274 (zw (v11 + 3)).toNat x4) fun σ15 =>
    zck 2 700 <| zlet (zrd σ15 274 2) fun v16 =>
    zck 2 700 <| zlet (zst σ15 274 2 (v16 + 1)) fun σ17 =>
    zck 2 700 <| zlet (zrd σ17 274 2) fun v18 =>
    some (v18 - 1, σ17)
  else
  some ((-1), σ7)
def fM_isAny_2 : Nat → Int → Int → Int → Zm → Zr
  | 0, _, _, _, _ => none
  | n + 1, x1, x2, x3, σ =>
    zlet (fun (x1 : Int) (x2 : Int) (x3 : Int) (σ : Zm) => fM_isAny_2 n x1 x2 x3 σ) fun R0 =>
    zbi (fM_clauses σ x1) fun v2 σ1 =>
    if v2 ≤ x3 then
      some (0, σ1)
    else
    zbi (fM_clauseAt σ1 x1 x3) fun v4 σ3 =>
    zck v4 5400 <| zlet (zrd σ3 276 v4.toNat) fun v5 =>
    if ¬ v5 = x2 then
      R0 x1 x2 (zw (x3 + 1)) σ3
    else
    zbi (fM_isSo σ3 x1 x3) fun v7 σ6 =>
    if v7 = 0 then
      R0 x1 x2 (zw (x3 + 1)) σ6
    else
    some (1, σ6)
def fM_isAny (σ : Zm) (x1 : Int) (x2 : Int) : Zr :=
  fM_isAny_2 5000 x1 x2 0 σ
def fM_bind_2 : Nat → Int → Int → Zm → (Int → Zm → Zr) → Zr
  | 0, _, _, _, _ => none
  | n + 1, x1, x2, σ, K28 =>
    zlet (fun (x1 : Int) (x2 : Int) (σ : Zm) => fM_bind_2 n x1 x2 σ K28) fun R0 =>
    if 8 ≤ x2 then
      K28 x1 σ
    else
    zck x2 8 <| zlet (zst σ 291 x2.toNat 0) fun σ1 =>
    zck x2 8 <| zlet (zst σ1 292 x2.toNat 0) fun σ2 =>
    R0 x1 (zw (x2 + 1)) σ2
def fM_bind_63 : Nat → Int → Int → Int → Int → Zm → (Int → Int → Int → Zm → Zr) → Zr
  | 0, _, _, _, _, _, _ => none
  | n + 1, x1, x2, x3, x4, σ, K125 =>
    zlet (fun (x1 : Int) (x2 : Int) (x3 : Int) (x4 : Int) (σ : Zm) => fM_bind_63 n x1 x2 x3 x4 σ K125) fun R0 =>
    if 4 ≤ x4 then
      K125 x1 x2 x3 σ
    else
    zck (zw ((650 + (4 * x2)) + x4)) 700 <| zlet (zrd σ 274 (zw ((650 + (4 * x2)) + x4)).toNat) fun v7 =>
    zck (zw (13 + x4)) 21 <| zlet (zst σ 279 (zw (13 + x4)).toNat v7) fun σ8 =>
    zck (zw ((650 + (4 * x3)) + x4)) 700 <| zlet (zrd σ8 274 (zw ((650 + (4 * x3)) + x4)).toNat) fun v9 =>
    zck (zw (17 + x4)) 21 <| zlet (zst σ8 279 (zw (17 + x4)).toNat v9) fun σ10 =>
    R0 x1 x2 x3 (zw (x4 + 1)) σ10
def fM_bind_146 (R0 : Int → Int → Int → Zm → Zr) (K188 : Int → Int → Zm → Zr) (x1 : Int) (x2 : Int) (x3 : Int) (σ : Zm) : Zr :=
  zbi (fM_isAny σ x1 4) fun v18 σ17 =>
  if ¬ v18 = 0 then
    zck x2 8 <| zlet (zrd σ17 292 x2.toNat) fun v19 =>
    zck x2 8 <| zlet (zst σ17 292 x2.toNat (zor v19 (zshl 1 x3))) fun σ20 =>
    zck x3 8 <| zlet (zrd σ20 292 x3.toNat) fun v21 =>
    zck x3 8 <| zlet (zst σ20 292 x3.toNat (zor v21 (zshl 1 x2))) fun σ22 =>
    R0 x1 x2 (zw (x3 + 1)) σ22
  else
  R0 x1 x2 (zw (x3 + 1)) σ17
def fM_bind_42 : Nat → Int → Int → Int → Zm → (Int → Int → Zm → Zr) → Zr
  | 0, _, _, _, _, _ => none
  | n + 1, x1, x2, x3, σ, K188 =>
    zlet (fun (x1 : Int) (x2 : Int) (x3 : Int) (σ : Zm) => fM_bind_42 n x1 x2 x3 σ K188) fun R0 =>
    zck 2 700 <| zlet (zrd σ 274 2) fun v6 =>
    if v6 ≤ x3 then
      K188 x1 x2 σ
    else
    if ¬ x2 = x3 then
      fM_bind_63 5000 x1 x2 x3 0 σ fun y12 y13 y14 σ11 =>
      zbi (fM_isAny σ11 y12 3) fun v16 σ15 =>
      if v16 = 0 then
        fM_bind_146 R0 K188 y12 y13 y14 σ15
      else
      zck y13 8 <| zlet (zrd σ15 291 y13.toNat) fun v23 =>
      zck y13 8 <| zlet (zst σ15 291 y13.toNat (zor v23 (zshl 1 y14))) fun σ24 =>
      fM_bind_146 R0 K188 y12 y13 y14 σ24
    else
    R0 x1 x2 (zw (x3 + 1)) σ
def fM_bind_30 : Nat → Int → Int → Zm → Zr
  | 0, _, _, _ => none
  | n + 1, x1, x2, σ =>
    zlet (fun (x1 : Int) (x2 : Int) (σ : Zm) => fM_bind_30 n x1 x2 σ) fun R0 =>
    zck 2 700 <| zlet (zrd σ 274 2) fun v5 =>
    if v5 ≤ x2 then
      some (0, σ)
    else
    fM_bind_42 5000 x1 x2 0 σ fun y26 y27 σ25 =>
    R0 y26 (zw (y27 + 1)) σ25
def fM_bind (σ : Zm) (x1 : Int) : Zr :=
  fM_bind_2 5000 x1 0 σ fun y4 σ3 =>
  fM_bind_30 5000 y4 0 σ3
def fM_mayLie (σ : Zm) (x1 : Int) (x2 : Int) (x3 : Int) : Zr :=
  zck x1 8 <| zlet (zrd σ 291 x1.toNat) fun v1 =>
  if ¬ zand v1 x2 = 0 then
    some (0, σ)
  else
  zck x1 8 <| zlet (zrd σ 292 x1.toNat) fun v2 =>
  if ¬ zand (zand v2 x2) (zxor (zshl 1 x3) (-1)) = 0 then
    some (0, σ)
  else
  some (1, σ)
def fM_count_23 : Nat → Int → Int → Int → Int → Zm → (Int → Int → Int → Zm → Zr) → Zr
  | 0, _, _, _, _, _, _ => none
  | n + 1, x2, x3, x4, x5, σ, K45 =>
    zlet (fun (x2 : Int) (x3 : Int) (x4 : Int) (x5 : Int) (σ : Zm) => fM_count_23 n x2 x3 x4 x5 σ K45) fun R0 =>
    if 2048 ≤ x5 then
      K45 x2 x3 x4 σ
    else
    zck x5 2048 <| zlet (zst σ 293 x5.toNat 0) fun σ3 =>
    R0 x2 x3 x4 (zw (x5 + 1)) σ3
def fM_count_48 : Nat → Int → Int → Int → Int → Zm → (Int → Int → Int → Zm → Zr) → Zr
  | 0, _, _, _, _, _, _ => none
  | n + 1, x2, x3, x4, x5, σ, K108 =>
    zlet (fun (x2 : Int) (x3 : Int) (x4 : Int) (x5 : Int) (σ : Zm) => fM_count_48 n x2 x3 x4 x5 σ K108) fun R0 =>
    if x4 ≤ x5 then
      K108 x2 x3 x4 σ
    else
    if x2 < 0 then
      zck (zw ((8 * (zshl 1 x5)) + x5)) 2048 <| zlet (zst σ 293 (zw ((8 * (zshl 1 x5)) + x5)).toNat 1) fun σ8 =>
      R0 x2 x3 x4 (zw (x5 + 1)) σ8
    else
    if ¬ x5 = x2 then
      if ¬ x3 = 0 then
        if (0 : Int) = 0 then
          zck (zw ((8 * (zshl 1 x5)) + x5)) 2048 <| zlet (zst σ 293 (zw ((8 * (zshl 1 x5)) + x5)).toNat 1) fun σ9 =>
          R0 x2 x3 x4 (zw (x5 + 1)) σ9
        else
        zck (zw ((8 * (zshl 1 x5)) + x5)) 2048 <| zlet (zst σ 293 (zw ((8 * (zshl 1 x5)) + x5)).toNat 0) fun σ10 =>
        R0 x2 x3 x4 (zw (x5 + 1)) σ10
      else
      if (0 : Int) = 1 then
        zck (zw ((8 * (zshl 1 x5)) + x5)) 2048 <| zlet (zst σ 293 (zw ((8 * (zshl 1 x5)) + x5)).toNat 1) fun σ11 =>
        R0 x2 x3 x4 (zw (x5 + 1)) σ11
      else
      zck (zw ((8 * (zshl 1 x5)) + x5)) 2048 <| zlet (zst σ 293 (zw ((8 * (zshl 1 x5)) + x5)).toNat 0) fun σ12 =>
      R0 x2 x3 x4 (zw (x5 + 1)) σ12
    else
    if ¬ x3 = 0 then
      if (1 : Int) = 0 then
        zck (zw ((8 * (zshl 1 x5)) + x5)) 2048 <| zlet (zst σ 293 (zw ((8 * (zshl 1 x5)) + x5)).toNat 1) fun σ13 =>
        R0 x2 x3 x4 (zw (x5 + 1)) σ13
      else
      zck (zw ((8 * (zshl 1 x5)) + x5)) 2048 <| zlet (zst σ 293 (zw ((8 * (zshl 1 x5)) + x5)).toNat 0) fun σ14 =>
      R0 x2 x3 x4 (zw (x5 + 1)) σ14
    else
    if (1 : Int) = 1 then
      zck (zw ((8 * (zshl 1 x5)) + x5)) 2048 <| zlet (zst σ 293 (zw ((8 * (zshl 1 x5)) + x5)).toNat 1) fun σ15 =>
      R0 x2 x3 x4 (zw (x5 + 1)) σ15
    else
    zck (zw ((8 * (zshl 1 x5)) + x5)) 2048 <| zlet (zst σ 293 (zw ((8 * (zshl 1 x5)) + x5)).toNat 0) fun σ16 =>
    R0 x2 x3 x4 (zw (x5 + 1)) σ16
def fM_count_126 : Nat → Int → Int → Int → Int → Int → Int → Zm → (Int → Int → Int → Int → Int → Zm → Zr) → Zr
  | 0, _, _, _, _, _, _, _, _ => none
  | n + 1, x2, x3, x4, x5, x6, x7, σ, K151 =>
    zlet (fun (x2 : Int) (x3 : Int) (x4 : Int) (x5 : Int) (x6 : Int) (x7 : Int) (σ : Zm) => fM_count_126 n x2 x3 x4 x5 x6 x7 σ K151) fun R0 =>
    if x4 ≤ x7 then
      K151 x2 x3 x4 x5 x6 σ
    else
    zlet (zw (x6 + (zand (zshr x5 x7) 1))) fun v21 =>
    R0 x2 x3 x4 x5 v21 (zw (x7 + 1)) σ
def fM_count_250 (R0 : Int → Int → Int → Int → Int → Int → Int → Int → Zm → Zr) (K284 : Int → Int → Int → Int → Int → Int → Zm → Zr) (x2 : Int) (x3 : Int) (x4 : Int) (x5 : Int) (x6 : Int) (x7 : Int) (x8 : Int) (x9 : Int) (x10 : Int) (σ : Zm) : Zr :=
  if x10 = 0 then
    R0 x2 x3 x4 x5 x6 x7 x8 (zw (x9 + 1)) σ
  else
  zck (zw ((8 * (zor x5 (zshl 1 x9))) + x9)) 2048 <| zlet (zrd σ 293 (zw ((8 * (zor x5 (zshl 1 x9))) + x9)).toNat) fun v29 =>
  zck (zw ((8 * (zor x5 (zshl 1 x9))) + x9)) 2048 <| zlet (zst σ 293 (zw ((8 * (zor x5 (zshl 1 x9))) + x9)).toNat (v29 + x8)) fun σ30 =>
  R0 x2 x3 x4 x5 x6 x7 x8 (zw (x9 + 1)) σ30
def fM_count_247 (R0 : Int → Int → Int → Int → Int → Int → Int → Int → Zm → Zr) (K284 : Int → Int → Int → Int → Int → Int → Zm → Zr) (x2 : Int) (x3 : Int) (x4 : Int) (x5 : Int) (x6 : Int) (x7 : Int) (x8 : Int) (x9 : Int) (σ : Zm) : Zr :=
  fM_count_250 R0 K284 x2 x3 x4 x5 x6 x7 x8 x9 0 σ
def fM_count_243 (R0 : Int → Int → Int → Int → Int → Int → Int → Int → Zm → Zr) (K284 : Int → Int → Int → Int → Int → Int → Zm → Zr) (x2 : Int) (x3 : Int) (x4 : Int) (x5 : Int) (x6 : Int) (x7 : Int) (x8 : Int) (x9 : Int) (σ : Zm) : Zr :=
  fM_count_250 R0 K284 x2 x3 x4 x5 x6 x7 x8 x9 1 σ
def fM_count_179 : Nat → Int → Int → Int → Int → Int → Int → Int → Int → Zm → (Int → Int → Int → Int → Int → Int → Zm → Zr) → Zr
  | 0, _, _, _, _, _, _, _, _, _, _ => none
  | n + 1, x2, x3, x4, x5, x6, x7, x8, x9, σ, K284 =>
    zlet (fun (x2 : Int) (x3 : Int) (x4 : Int) (x5 : Int) (x6 : Int) (x7 : Int) (x8 : Int) (x9 : Int) (σ : Zm) => fM_count_179 n x2 x3 x4 x5 x6 x7 x8 x9 σ K284) fun R0 =>
    if x4 ≤ x9 then
      K284 x2 x3 x4 x5 x6 x7 σ
    else
    if x8 ≤ 0 then
      K284 x2 x3 x4 x5 x6 x7 σ
    else
    if ¬ zand (zshr x5 x9) 1 = 0 then
      fM_count_247 R0 K284 x2 x3 x4 x5 x6 x7 x8 x9 σ
    else
    zbi (fM_mayLie σ x9 x5 x7) fun v32 σ31 =>
    if v32 = 0 then
      fM_count_247 R0 K284 x2 x3 x4 x5 x6 x7 x8 x9 σ31
    else
    if x2 < 0 then
      fM_count_243 R0 K284 x2 x3 x4 x5 x6 x7 x8 x9 σ31
    else
    if ¬ x9 = x2 then
      if ¬ x3 = x6 then
        if ¬ (0 : Int) = 0 then
          fM_count_247 R0 K284 x2 x3 x4 x5 x6 x7 x8 x9 σ31
        else
        fM_count_243 R0 K284 x2 x3 x4 x5 x6 x7 x8 x9 σ31
      else
      if ¬ (0 : Int) = 1 then
        fM_count_247 R0 K284 x2 x3 x4 x5 x6 x7 x8 x9 σ31
      else
      fM_count_243 R0 K284 x2 x3 x4 x5 x6 x7 x8 x9 σ31
    else
    if ¬ x3 = x6 then
      if ¬ (1 : Int) = 0 then
        fM_count_247 R0 K284 x2 x3 x4 x5 x6 x7 x8 x9 σ31
      else
      fM_count_243 R0 K284 x2 x3 x4 x5 x6 x7 x8 x9 σ31
    else
    if ¬ (1 : Int) = 1 then
      fM_count_247 R0 K284 x2 x3 x4 x5 x6 x7 x8 x9 σ31
    else
    fM_count_243 R0 K284 x2 x3 x4 x5 x6 x7 x8 x9 σ31
def fM_count_154 : Nat → Int → Int → Int → Int → Int → Int → Zm → (Int → Int → Int → Int → Zm → Zr) → Zr
  | 0, _, _, _, _, _, _, _, _ => none
  | n + 1, x2, x3, x4, x5, x6, x7, σ, K290 =>
    zlet (fun (x2 : Int) (x3 : Int) (x4 : Int) (x5 : Int) (x6 : Int) (x7 : Int) (σ : Zm) => fM_count_154 n x2 x3 x4 x5 x6 x7 σ K290) fun R0 =>
    if x4 ≤ x7 then
      K290 x2 x3 x4 x5 σ
    else
    zck (zw ((8 * x5) + x7)) 2048 <| zlet (zrd σ 293 (zw ((8 * x5) + x7)).toNat) fun v28 =>
    fM_count_179 5000 x2 x3 x4 x5 x6 x7 v28 0 σ fun y34 y35 y36 y37 y38 y39 σ33 =>
    R0 y34 y35 y36 y37 y38 (zw (y39 + 1)) σ33
def fM_count_111 : Nat → Int → Int → Int → Int → Zm → (Int → Zm → Zr) → Zr
  | 0, _, _, _, _, _, _ => none
  | n + 1, x2, x3, x4, x5, σ, K296 =>
    zlet (fun (x2 : Int) (x3 : Int) (x4 : Int) (x5 : Int) (σ : Zm) => fM_count_111 n x2 x3 x4 x5 σ K296) fun R0 =>
    if zshl 1 x4 ≤ x5 then
      K296 x4 σ
    else
    fM_count_126 5000 x2 x3 x4 x5 0 0 σ fun y23 y24 y25 y26 y27 σ22 =>
    fM_count_154 5000 y23 y24 y25 y26 y27 0 σ22 fun y41 y42 y43 y44 σ40 =>
    R0 y41 y42 y43 (zw (y44 + 1)) σ40
def fM_count_302 : Nat → Int → Int → Int → Zm → Zr
  | 0, _, _, _, _ => none
  | n + 1, x4, x5, x6, σ =>
    zlet (fun (x4 : Int) (x5 : Int) (x6 : Int) (σ : Zm) => fM_count_302 n x4 x5 x6 σ) fun R0 =>
    if x4 ≤ x6 then
      some (x5, σ)
    else
    zck (zw ((8 * ((zshl 1 x4) - 1)) + x6)) 2048 <| zlet (zrd σ 293 (zw ((8 * ((zshl 1 x4) - 1)) + x6)).toNat) fun v47 =>
    zlet (zw (x5 + v47)) fun v48 =>
    R0 x4 v48 (zw (x6 + 1)) σ
def fM_count (σ : Zm) (x1 : Int) (x2 : Int) (x3 : Int) : Zr :=
  zbv (fM_bind σ x1) fun σ1 =>
  zck 2 700 <| zlet (zrd σ1 274 2) fun v2 =>
  if ¬ v2 = 0 then
    fM_count_23 5000 x2 x3 v2 0 σ1 fun y5 y6 y7 σ4 =>
    fM_count_48 5000 y5 y6 y7 0 σ4 fun y18 y19 y20 σ17 =>
    fM_count_111 5000 y18 y19 y20 1 σ17 fun y46 σ45 =>
    fM_count_302 5000 y46 0 0 σ45
  else
  some (1, σ1)
def fM_orders (σ : Zm) (x1 : Int) : Zr :=
  zbi (fM_isText σ x1) fun v2 σ1 =>
  if v2 = 0 then
    some ((-1), σ1)
  else
  zbi (fM_count σ1 x1 (-1) 0) fun v4 σ3 =>
  some (v4, σ3)
def fM_where (σ : Zm) (x1 : Int) (x2 : Int) (x3 : Int) : Zr :=
  zbi (fM_isText σ x1) fun v2 σ1 =>
  if v2 = 0 then
    some ((-1), σ1)
  else
  zck 2 700 <| zlet (zrd σ1 274 2) fun v3 =>
  zbi (fM_isIn σ1 x2 0 (zw (v3 - 1))) fun v5 σ4 =>
  if v5 = 0 then
    some ((-1), σ4)
  else
  zck 2 700 <| zlet (zrd σ4 274 2) fun v6 =>
  zbi (fM_isIn σ4 x3 0 (zw (v6 - 1))) fun v8 σ7 =>
  if v8 = 0 then
    some ((-1), σ7)
  else
  zbi (fM_count σ7 x1 x2 x3) fun v10 σ9 =>
  some (v10, σ9)
def fM_weight (σ : Zm) (x1 : Int) (x2 : Int) : Zr :=
  zbi (fM_isText σ x1) fun v2 σ1 =>
  if v2 = 0 then
    some (0, σ1)
  else
  zbi (fM_isIn σ1 x2 0 9) fun v4 σ3 =>
  if ¬ v4 = 0 then
    zck (zw (690 + x1)) 700 <| zlet (zst σ3 274 (zw (690 + x1)).toNat x2) fun σ5 =>
    some (1, σ5)
  else
  some (0, σ3)
def fM_story_41 : Nat → Int → Int → Int → Int → Zm → (Int → Int → Zm → Zr) → Zr
  | 0, _, _, _, _, _, _ => none
  | n + 1, x1, x2, x3, x4, σ, K91 =>
    zlet (fun (x1 : Int) (x2 : Int) (x3 : Int) (x4 : Int) (σ : Zm) => fM_story_41 n x1 x2 x3 x4 σ K91) fun R0 =>
    zck 1 700 <| zlet (zrd σ 274 1) fun v6 =>
    if v6 ≤ x4 then
      K91 x2 x3 σ
    else
    if ¬ zand (zshr x1 x4) 1 = 1 then
      R0 x1 x2 x3 (zw (x4 + 1)) σ
    else
    zck (zw (690 + x4)) 700 <| zlet (zrd σ 274 (zw (690 + x4)).toNat) fun v7 =>
    zbi (fM_count σ x4 (-1) 0) fun v9 σ8 =>
    zlet (zw (x3 + (v7 * v9))) fun v10 =>
    R0 x1 x2 v10 (zw (x4 + 1)) σ8
def fM_story (σ : Zm) (x1 : Int) (x2 : Int) : Zr :=
  zck 1 700 <| zlet (zrd σ 274 1) fun v1 =>
  zbi (fM_isIn σ x1 0 (zw ((zshl 1 v1) - 1))) fun v3 σ2 =>
  if v3 = 0 then
    some ((-1), σ2)
  else
  zbi (fM_isText σ2 x2) fun v5 σ4 =>
  if v5 = 0 then
    some ((-1), σ4)
  else
  if ¬ zand (zshr x1 x2) 1 = 0 then
    fM_story_41 5000 x1 x2 0 0 σ4 fun y12 y13 σ11 =>
    if ¬ y13 = 0 then
      zck (zw (690 + y12)) 700 <| zlet (zrd σ11 274 (zw (690 + y12)).toNat) fun v14 =>
      zbi (fM_count σ11 y12 (-1) 0) fun v16 σ15 =>
      zdv y13 <|
      some (Int.tdiv (zx ((1000 * v14) * v16)) y13, σ15)
    else
    some ((-1), σ11)
  else
  some ((-1), σ4)
def fM_image (σ : Zm) : Zr :=
  zbv (fM_copyRow σ 274 275) fun σ1 =>
  zck 1 700 <| zlet (zrd σ1 274 1) fun v2 =>
  some (v2, σ1)
def fM_back (σ : Zm) : Zr :=
  zbv (fM_copyRow σ 275 274) fun σ1 =>
  zck 1 700 <| zlet (zrd σ1 274 1) fun v2 =>
  some (v2, σ1)
def fM_about (σ : Zm) (x1 : Int) : Zr :=
  zbi (fM_isIn σ x1 10 13) fun v2 σ1 =>
  if v2 = 0 then
    zbi (fM_isIn σ1 x1 20 23) fun v4 σ3 =>
    if v4 = 0 then
      zbi (fM_isIn σ3 x1 30 35) fun v6 σ5 =>
      if v6 = 0 then
        zbi (fM_isIn σ5 x1 40 45) fun v8 σ7 =>
        if v8 = 0 then
          if x1 = 0 then
            zck 0 700 <| zlet (zrd σ7 274 0) fun v10 =>
            some (v10, σ7)
          else
          if x1 = 1 then
            zck 1 700 <| zlet (zrd σ7 274 1) fun v12 =>
            some (v12, σ7)
          else
          if x1 = 2 then
            zck 2 700 <| zlet (zrd σ7 274 2) fun v14 =>
            some (v14, σ7)
          else
          if x1 = 3 then
            zck 3 700 <| zlet (zrd σ7 274 3) fun v16 =>
            some (v16, σ7)
          else
          if x1 = 4 then
            zlet (zrd σ7 273 4) fun v18 =>
            some (v18, σ7)
          else
          some ((-2), σ7)
        else
        zbi (fM_isText σ7 (zw (x1 - 40))) fun v20 σ19 =>
        if v20 = 0 then
          some ((-2), σ19)
        else
        zck (zw ((690 + x1) - 40)) 700 <| zlet (zrd σ19 274 (zw ((690 + x1) - 40)).toNat) fun v21 =>
        some (v21, σ19)
      else
      zbi (fM_beatsOf σ5 (zw (x1 - 30))) fun v23 σ22 =>
      some (v23, σ22)
    else
    zck (zw ((610 + x1) - 20)) 700 <| zlet (zrd σ3 274 (zw ((610 + x1) - 20)).toNat) fun v24 =>
    some (v24, σ3)
  else
  zbi (fM_lengthOf σ1 (zw (x1 - 10))) fun v26 σ25 =>
  some (v26, σ25)
def fJ_init (σ : Zm) (o0 : Nat) : Zr :=
  zlet (zzr σ (o0 + 1)) fun σ1 =>
  zlet (zzr σ1 (o0 + 2)) fun σ2 =>
  zlet (zzr σ2 (o0 + 3)) fun σ3 =>
  zlet (zst σ3 o0 3 4) fun σ4 =>
  zlet (zst σ4 o0 4 (-1)) fun σ5 =>
  zlet (zst σ5 o0 5 0) fun σ6 =>
  zlet (zst σ6 o0 6 0) fun σ7 =>
  zlet (zst σ7 o0 7 0) fun σ8 =>
  zlet (zst σ8 o0 8 (-1)) fun σ9 =>
  some (0, σ9)
def fU_init (σ : Zm) (o0 : Nat) : Zr :=
  zlet (zzr σ (o0 + 1)) fun σ1 =>
  zlet (zzr σ1 (o0 + 2)) fun σ2 =>
  zlet (zzr σ2 (o0 + 3)) fun σ3 =>
  zlet (zzr σ3 (o0 + 4)) fun σ4 =>
  zlet (zzr σ4 (o0 + 5)) fun σ5 =>
  zlet (zst σ5 o0 5 0) fun σ6 =>
  zlet (zst σ6 o0 6 0) fun σ7 =>
  some (0, σ7)
def fT_init (σ : Zm) (o0 : Nat) : Zr :=
  zlet (zzr σ (o0 + 1)) fun σ1 =>
  zlet (zzr σ1 (o0 + 2)) fun σ2 =>
  zlet (zst σ2 o0 2 0) fun σ3 =>
  zlet (zst σ3 o0 3 0) fun σ4 =>
  some (0, σ4)
def fR_init (σ : Zm) : Zr :=
  zlet (zzr σ 151) fun σ1 =>
  zlet (zzr σ1 152) fun σ2 =>
  zlet (zst σ2 150 2 0) fun σ3 =>
  zlet (zst σ3 150 3 0) fun σ4 =>
  zlet (zst σ4 150 4 (-1)) fun σ5 =>
  zlet (zst σ5 150 5 0) fun σ6 =>
  zlet (zst σ6 150 6 0) fun σ7 =>
  zlet (zst σ7 150 7 21) fun σ8 =>
  zlet (zst σ8 150 8 0) fun σ9 =>
  zlet (zst σ9 150 9 0) fun σ10 =>
  zlet (zst σ10 150 10 0) fun σ11 =>
  zlet (zst σ11 150 11 0) fun σ12 =>
  zlet (zst σ12 150 12 0) fun σ13 =>
  zlet (zst σ13 150 13 0) fun σ14 =>
  zlet (zst σ14 150 14 0) fun σ15 =>
  zlet (zst σ15 150 15 0) fun σ16 =>
  some (0, σ16)
def fL_init (σ : Zm) (o0 : Nat) (A9 : Int) : Zr :=
  zlet (max 0 A9) fun v1 =>
  zlet (zzr σ (o0 + 1)) fun σ2 =>
  zlet (max 0 A9) fun v3 =>
  zlet (zzr σ2 (o0 + 2)) fun σ4 =>
  some (0, σ4)
def fS_init_83 : Nat → Nat → Int → Zm → (Zm → Zr) → Zr
  | 0, _, _, _, _ => none
  | n + 1, o0, x1, σ, K =>
    if 16 ≤ x1 then
      K σ
    else
    zlet (zzr σ (o0 + 8 + 3 * x1.toNat)) fun σ1 =>
    zbv (fL_init σ1 (o0 + 8 + 3 * x1.toNat) 32) fun σ2 =>
    fS_init_83 n o0 (zw (x1 + 1)) σ2 K
def fS_init_115 : Nat → Nat → Int → Zm → (Zm → Zr) → Zr
  | 0, _, _, _, _ => none
  | n + 1, o0, x1, σ, K =>
    if 6 ≤ x1 then
      K σ
    else
    zlet (zzr σ (o0 + 56 + 3 * x1.toNat)) fun σ1 =>
    zbv (fL_init σ1 (o0 + 56 + 3 * x1.toNat) 12) fun σ2 =>
    fS_init_115 n o0 (zw (x1 + 1)) σ2 K
def fK_init_88 : Nat → Int → Zm → (Zm → Zr) → Zr
  | 0, _, _, _ => none
  | n + 1, x1, σ, K =>
    if 4 ≤ x1 then
      K σ
    else
    zlet (zzr σ (198 + 3 * x1.toNat)) fun σ1 =>
    zbv (fL_init σ1 (198 + 3 * x1.toNat) 32) fun σ2 =>
    fK_init_88 n (zw (x1 + 1)) σ2 K
def fX_init_127 : Nat → Int → Zm → (Zm → Zr) → Zr
  | 0, _, _, _ => none
  | n + 1, x1, σ, K =>
    if 6 ≤ x1 then
      K σ
    else
    zlet (zzr σ (225 + 6 * x1.toNat)) fun σ1 =>
    zbv (fU_init σ1 (225 + 6 * x1.toNat)) fun σ2 =>
    fX_init_127 n (zw (x1 + 1)) σ2 K
def fX_init_154 : Nat → Int → Zm → (Zm → Zr) → Zr
  | 0, _, _, _ => none
  | n + 1, x1, σ, K =>
    if 4 ≤ x1 then
      K σ
    else
    zlet (zzr σ (261 + 3 * x1.toNat)) fun σ1 =>
    zbv (fL_init σ1 (261 + 3 * x1.toNat) 32) fun σ2 =>
    fX_init_154 n (zw (x1 + 1)) σ2 K
def fB_init (σ : Zm) : Zr :=
  zlet (zzr σ 211) fun σ1 =>
  zbv (fJ_init σ1 211) fun σ2 =>
  zlet (zzr σ2 215) fun σ3 =>
  zlet (zzr σ3 216) fun σ4 =>
  zlet (zzr σ4 217) fun σ5 =>
  some (0, σ5)
def fF_init (σ : Zm) : Zr :=
  zlet (zzr σ 158) fun σ1 =>
  zbv (fJ_init σ1 158) fun σ2 =>
  zlet (zzr σ2 162) fun σ3 =>
  zbv (fL_init σ3 162 32) fun σ4 =>
  zlet (zzr σ4 165) fun σ5 =>
  zbv (fL_init σ5 165 32) fun σ6 =>
  zlet (zzr σ6 168) fun σ7 =>
  zbv (fL_init σ7 168 32) fun σ8 =>
  zlet (zzr σ8 171) fun σ9 =>
  zbv (fL_init σ9 171 12) fun σ10 =>
  zlet (zzr σ10 174) fun σ11 =>
  zlet (zzr σ11 175) fun σ12 =>
  zlet (zzr σ12 176) fun σ13 =>
  zlet (zst σ13 157 8 0) fun σ14 =>
  zlet (zst σ14 157 9 0) fun σ15 =>
  zlet (zst σ15 157 10 0) fun σ16 =>
  zlet (zst σ16 157 11 0) fun σ17 =>
  some (0, σ17)
def fS_init (σ : Zm) (o0 : Nat) : Zr :=
  zlet (zzr σ (o0 + 1)) fun σ1 =>
  zlet (zzr σ1 (o0 + 2)) fun σ2 =>
  zlet (zzr σ2 (o0 + 3)) fun σ3 =>
  zlet (zzr σ3 (o0 + 4)) fun σ4 =>
  zlet (zzr σ4 (o0 + 5)) fun σ5 =>
  zlet (zzr σ5 (o0 + 6)) fun σ6 =>
  zlet (zzr σ6 (o0 + 7)) fun σ7 =>
  zlet (zst σ7 o0 7 4) fun σ8 =>
  zlet (zst σ8 o0 8 0) fun σ9 =>
  zlet (zst σ9 o0 9 0) fun σ10 =>
  zlet (zst σ10 o0 10 0) fun σ11 =>
  fS_init_83 5000 o0 0 σ11 fun σ8 =>
  fS_init_115 5000 o0 0 σ8 fun σ9 =>
  zbv (fJ7_fill_53178 σ9 (o0 + 3) (-1)) fun σ10 =>
  some (0, σ10)
def fK_init (σ : Zm) : Zr :=
  zlet (zzr σ 178) fun σ1 =>
  zbv (fJ_init σ1 178) fun σ2 =>
  zlet (zzr σ2 182) fun σ3 =>
  zlet (zzs σ3 183 (1 + 6)) fun σ4 =>
  zlet (zzs σ4 190 (1 + 6)) fun σ5 =>
  zlet (zzr σ5 197) fun σ6 =>
  zlet (zst σ6 177 5 0) fun σ7 =>
  zlet (zst σ7 177 6 0) fun σ8 =>
  zlet (zst σ8 177 7 1) fun σ9 =>
  zlet (zst σ9 177 8 0) fun σ10 =>
  zlet (zst σ10 177 9 1) fun σ11 =>
  zlet (zst σ11 177 10 0) fun σ12 =>
  fK_init_88 5000 0 σ12 fun σ8 =>
  some (0, σ8)
def fX_init (σ : Zm) : Zr :=
  zlet (zzr σ 1) fun σ1 =>
  zbv (fS_init σ1 1) fun σ2 =>
  zlet (zzr σ2 75) fun σ3 =>
  zbv (fS_init σ3 75) fun σ4 =>
  zlet (zzr σ4 149) fun σ5 =>
  zlet (zzr σ5 150) fun σ6 =>
  zbv (fR_init σ6) fun σ7 =>
  zlet (zzr σ7 153) fun σ8 =>
  zbv (fJ_init σ8 153) fun σ9 =>
  zlet (zzr σ9 157) fun σ10 =>
  zbv (fF_init σ10) fun σ11 =>
  zlet (zzr σ11 177) fun σ12 =>
  zbv (fK_init σ12) fun σ13 =>
  zlet (zzr σ13 210) fun σ14 =>
  zbv (fB_init σ14) fun σ15 =>
  zlet (zzr σ15 218) fun σ16 =>
  zbv (fT_init σ16 218) fun σ17 =>
  zlet (zzr σ17 221) fun σ18 =>
  zbv (fT_init σ18 221) fun σ19 =>
  zlet (zzr σ19 224) fun σ20 =>
  zlet (zst σ20 0 11 0) fun σ21 =>
  fX_init_127 5000 0 σ21 fun σ8 =>
  fX_init_154 5000 0 σ8 fun σ9 =>
  some (0, σ9)
def fM_init_194 : Nat → Int → Zm → (Zm → Zr) → Zr
  | 0, _, _, _ => none
  | n + 1, x1, σ, K =>
    if 512 ≤ x1 then
      K σ
    else
    zck (zw (10 + x1)) 700 <| zlet (zst σ 274 (zw (10 + x1)).toNat (-1)) fun σ1 =>
    fM_init_194 n (zw (x1 + 1)) σ1 K
def fM_init_219 : Nat → Int → Zm → (Zm → Zr) → Zr
  | 0, _, _, _ => none
  | n + 1, x1, σ, K =>
    if 72 ≤ x1 then
      K σ
    else
    zck (zw (530 + x1)) 700 <| zlet (zst σ 274 (zw (530 + x1)).toNat (-1000)) fun σ1 =>
    fM_init_219 n (zw (x1 + 1)) σ1 K
def fM_init_246 : Nat → Int → Zm → (Zm → Zr) → Zr
  | 0, _, _, _ => none
  | n + 1, x1, σ, K =>
    if 4 ≤ x1 then
      K σ
    else
    zck (zw (610 + x1)) 700 <| zlet (zst σ 274 (zw (610 + x1)).toNat (-1)) fun σ1 =>
    fM_init_246 n (zw (x1 + 1)) σ1 K
def fM_init (σ : Zm) : Zr :=
  zlet (zzr σ 274) fun σ1 =>
  zlet (zzr σ1 275) fun σ2 =>
  zlet (zzr σ2 276) fun σ3 =>
  zlet (zzr σ3 277) fun σ4 =>
  zlet (zst σ4 273 5 (-1)) fun σ5 =>
  zlet (zst σ5 273 6 (-1)) fun σ6 =>
  zlet (zzr σ6 278) fun σ7 =>
  zlet (zzr σ7 279) fun σ8 =>
  zlet (zzr σ8 280) fun σ9 =>
  zlet (zzr σ9 281) fun σ10 =>
  zlet (zzr σ10 282) fun σ11 =>
  zlet (zzr σ11 283) fun σ12 =>
  zlet (zzr σ12 284) fun σ13 =>
  zlet (zzr σ13 285) fun σ14 =>
  zlet (zzr σ14 286) fun σ15 =>
  zlet (zzr σ15 287) fun σ16 =>
  zlet (zzr σ16 288) fun σ17 =>
  zlet (zzr σ17 289) fun σ18 =>
  zlet (zzr σ18 290) fun σ19 =>
  zlet (zzr σ19 291) fun σ20 =>
  zlet (zzr σ20 292) fun σ21 =>
  zlet (zzr σ21 293) fun σ22 =>
  zck 0 700 <| zlet (zst σ22 274 0 4) fun σm =>
  fM_init_194 5000 0 σm fun σa =>
  fM_init_219 5000 0 σa fun σb =>
  fM_init_246 5000 0 σb fun σc =>
  zbv (fM_copyRow σc 274 275) fun σd =>
  some (0, σd)

def G_L_law_j805 (r69 : Fig → Fig → PastS → (Nat → Int32) → (Nat → Int32) → (Nat → Int32) → (Nat → Int32) → (Nat → Int32) → (Nat → Int32) → Int32 → Option (Int32)) (L : Nat) (xs : Nat → Int32) (F_805 : Fig) (D_805 : Fig) (P_805 : PastS) (w5_805 : Nat → Int32) (w6_805 : Nat → Int32) (w7_805 : Nat → Int32) (w8_805 : Nat → Int32) (w9_805 : Nat → Int32) (w10_805 : Nat → Int32) (l9_805 : Int32) (l8_805 : Int32) : Option (Int32) :=
  (G_L_low (l9_805 >>> ((17 : Int32) &&& 31)) 16).bind fun v813 =>
  (G_L_same 5 40 40 F_805 w5_805 w6_805 w7_805 v813).bind fun v820 =>
  if v820 = 0 then
    some 0
  else
    r69 F_805 D_805 P_805 w5_805 w6_805 w7_805 w8_805 w9_805 w10_805 (l8_805 + 1)
def G_L_law_j646 (r69 : Fig → Fig → PastS → (Nat → Int32) → (Nat → Int32) → (Nat → Int32) → (Nat → Int32) → (Nat → Int32) → (Nat → Int32) → Int32 → Option (Int32)) (L : Nat) (xs : Nat → Int32) (F_646 : Fig) (D_646 : Fig) (P_646 : PastS) (w5_646 : Nat → Int32) (w6_646 : Nat → Int32) (w7_646 : Nat → Int32) (w8_646 : Nat → Int32) (w9_646 : Nat → Int32) (w10_646 : Nat → Int32) (l9_646 : Int32) (l8_646 : Int32) : Option (Int32) :=
  G_L_law_j805 r69 L xs F_646 D_646 P_646 w5_646 w6_646 w7_646 w8_646 w9_646 w10_646 l9_646 l8_646
def G_L_law_j552 (r69 : Fig → Fig → PastS → (Nat → Int32) → (Nat → Int32) → (Nat → Int32) → (Nat → Int32) → (Nat → Int32) → (Nat → Int32) → Int32 → Option (Int32)) (L : Nat) (xs : Nat → Int32) (F_552 : Fig) (D_552 : Fig) (P_552 : PastS) (w5_552 : Nat → Int32) (w6_552 : Nat → Int32) (w7_552 : Nat → Int32) (w8_552 : Nat → Int32) (w9_552 : Nat → Int32) (w10_552 : Nat → Int32) (l16_552 : Int32) (l12_552 : Int32) (l11_552 : Int32) (l9_552 : Int32) (l8_552 : Int32) : Option (Int32) :=
  (rd 5 w8_552 (1 + l11_552)).bind fun v559 =>
  ((if l16_552 = 0 then
      some 1
    else
      some 0) : Option (Int32)).bind fun b562 =>
  (wr 5 w8_552 (1 + l11_552) (v559 - b562)).bind fun g571 =>
  ((if l16_552 = 0 then
      (G_L_broken 5 40 40 g571 w9_552 w10_552).bind fun v583 =>
      if v583 = 0 then
        some 1
      else
        some 0
    else
      some 0) : Option (Int32)).bind fun b574 =>
  (G_L_remove F_552 D_552 P_552 l11_552 l12_552).bind fun v601 =>
  ((if b574 = 0 then
      some (-2)
    else
      (G_L_area 5 40 40 g571 w9_552 w10_552).bind fun v615 =>
      some v615) : Option (Int32)).bind fun b606 =>
  if v601.1 = b606 then
    if b574 = 0 then
      G_L_law_j646 r69 L xs v601.2.1 v601.2.2.1 v601.2.2.2 w5_552 w6_552 w7_552 g571 w9_552 w10_552 l9_552 l8_552
    else
      (G_L_copy 5 40 40 5 40 40 g571 w9_552 w10_552 w5_552 w6_552 w7_552).bind fun v643 =>
      G_L_law_j646 r69 L xs v601.2.1 v601.2.2.1 v601.2.2.2 v643.1 v643.2.1 v643.2.2 g571 w9_552 w10_552 l9_552 l8_552
  else
    some 0
def G_L_law_L498 (r69 : Fig → Fig → PastS → (Nat → Int32) → (Nat → Int32) → (Nat → Int32) → (Nat → Int32) → (Nat → Int32) → (Nat → Int32) → Int32 → Option (Int32)) (L : Nat) (xs : Nat → Int32) : Nat → Fig → Fig → PastS → (Nat → Int32) → (Nat → Int32) → (Nat → Int32) → (Nat → Int32) → (Nat → Int32) → (Nat → Int32) → Int32 → Int32 → Int32 → Int32 → Int32 → Int32 → Option (Int32)
  | 0, _, _, _, _, _, _, _, _, _, _, _, _, _, _, _ => none
  | n498 + 1, F_498, D_498, P_498, w5_498, w6_498, w7_498, w8_498, w9_498, w10_498, l17_498, l16_498, l12_498, l11_498, l9_498, l8_498 =>
    (rd 5 w5_498 (1 + l11_498)).bind fun v512 =>
    if (10 * l11_498) + v512 ≤ l17_498 + 1 then
      G_L_law_j552 r69 L xs F_498 D_498 P_498 w5_498 w6_498 w7_498 w8_498 w9_498 w10_498 l16_498 l12_498 l11_498 l9_498 l8_498
    else
      if l16_498 = 0 then
        (rd 40 w9_498 (l17_498 + 1)).bind fun v532 =>
        (wr 40 w9_498 l17_498 v532).bind fun g533 =>
        (rd 40 w10_498 (l17_498 + 1)).bind fun v544 =>
        (wr 40 w10_498 l17_498 v544).bind fun g545 =>
        (G_L_law_L498 r69 L xs n498) F_498 D_498 P_498 w5_498 w6_498 w7_498 w8_498 g533 g545 (l17_498 + 1) l16_498 l12_498 l11_498 l9_498 l8_498
      else
        G_L_law_j552 r69 L xs F_498 D_498 P_498 w5_498 w6_498 w7_498 w8_498 w9_498 w10_498 l16_498 l12_498 l11_498 l9_498 l8_498
def G_L_law_j467 (r69 : Fig → Fig → PastS → (Nat → Int32) → (Nat → Int32) → (Nat → Int32) → (Nat → Int32) → (Nat → Int32) → (Nat → Int32) → Int32 → Option (Int32)) (L : Nat) (xs : Nat → Int32) (F_467 : Fig) (D_467 : Fig) (P_467 : PastS) (w5_467 : Nat → Int32) (w6_467 : Nat → Int32) (w7_467 : Nat → Int32) (w8_467 : Nat → Int32) (w9_467 : Nat → Int32) (w10_467 : Nat → Int32) (l9_467 : Int32) (l8_467 : Int32) : Option (Int32) :=
  G_L_law_j805 r69 L xs F_467 D_467 P_467 w5_467 w6_467 w7_467 w8_467 w9_467 w10_467 l9_467 l8_467
def G_L_law_j389 (r69 : Fig → Fig → PastS → (Nat → Int32) → (Nat → Int32) → (Nat → Int32) → (Nat → Int32) → (Nat → Int32) → (Nat → Int32) → Int32 → Option (Int32)) (L : Nat) (xs : Nat → Int32) (F_389 : Fig) (D_389 : Fig) (P_389 : PastS) (w5_389 : Nat → Int32) (w6_389 : Nat → Int32) (w7_389 : Nat → Int32) (w8_389 : Nat → Int32) (w9_389 : Nat → Int32) (w10_389 : Nat → Int32) (l16_389 : Int32) (l14_389 : Int32) (l13_389 : Int32) (l12_389 : Int32) (l11_389 : Int32) (l9_389 : Int32) (l8_389 : Int32) : Option (Int32) :=
  ((if l16_389 = 0 then
      (G_L_broken 5 40 40 w8_389 w9_389 w10_389).bind fun v400 =>
      if v400 = 0 then
        some 1
      else
        some 0
    else
      some 0) : Option (Int32)).bind fun b391 =>
  (G_L_insert F_389 D_389 P_389 l11_389 l12_389 l13_389 l14_389).bind fun v422 =>
  ((if b391 = 0 then
      some (-2)
    else
      (G_L_area 5 40 40 w8_389 w9_389 w10_389).bind fun v436 =>
      some v436) : Option (Int32)).bind fun b427 =>
  if v422.1 = b427 then
    if b391 = 0 then
      G_L_law_j467 r69 L xs v422.2.1 v422.2.2.1 v422.2.2.2 w5_389 w6_389 w7_389 w8_389 w9_389 w10_389 l9_389 l8_389
    else
      (G_L_copy 5 40 40 5 40 40 w8_389 w9_389 w10_389 w5_389 w6_389 w7_389).bind fun v464 =>
      G_L_law_j467 r69 L xs v422.2.1 v422.2.2.1 v422.2.2.2 v464.1 v464.2.1 v464.2.2 w8_389 w9_389 w10_389 l9_389 l8_389
  else
    some 0
def G_L_law_j355 (r69 : Fig → Fig → PastS → (Nat → Int32) → (Nat → Int32) → (Nat → Int32) → (Nat → Int32) → (Nat → Int32) → (Nat → Int32) → Int32 → Option (Int32)) (L : Nat) (xs : Nat → Int32) (F_355 : Fig) (D_355 : Fig) (P_355 : PastS) (w5_355 : Nat → Int32) (w6_355 : Nat → Int32) (w7_355 : Nat → Int32) (w8_355 : Nat → Int32) (w9_355 : Nat → Int32) (w10_355 : Nat → Int32) (l16_355 : Int32) (l15_355 : Int32) (l14_355 : Int32) (l13_355 : Int32) (l12_355 : Int32) (l11_355 : Int32) (l9_355 : Int32) (l8_355 : Int32) : Option (Int32) :=
  if l16_355 = 0 then
    (wr 40 w9_355 (l15_355 + 1) l13_355).bind fun g368 =>
    (wr 40 w10_355 (l15_355 + 1) l14_355).bind fun g377 =>
    (rd 5 w8_355 (1 + l11_355)).bind fun v385 =>
    (wr 5 w8_355 (1 + l11_355) (v385 + 1)).bind fun g388 =>
    G_L_law_j389 r69 L xs F_355 D_355 P_355 w5_355 w6_355 w7_355 g388 g368 g377 l16_355 l14_355 l13_355 l12_355 l11_355 l9_355 l8_355
  else
    G_L_law_j389 r69 L xs F_355 D_355 P_355 w5_355 w6_355 w7_355 w8_355 w9_355 w10_355 l16_355 l14_355 l13_355 l12_355 l11_355 l9_355 l8_355
def G_L_law_L311 (r69 : Fig → Fig → PastS → (Nat → Int32) → (Nat → Int32) → (Nat → Int32) → (Nat → Int32) → (Nat → Int32) → (Nat → Int32) → Int32 → Option (Int32)) (L : Nat) (xs : Nat → Int32) : Nat → Fig → Fig → PastS → (Nat → Int32) → (Nat → Int32) → (Nat → Int32) → (Nat → Int32) → (Nat → Int32) → (Nat → Int32) → Int32 → Int32 → Int32 → Int32 → Int32 → Int32 → Int32 → Int32 → Int32 → Option (Int32)
  | 0, _, _, _, _, _, _, _, _, _, _, _, _, _, _, _, _, _, _ => none
  | n311 + 1, F_311, D_311, P_311, w5_311, w6_311, w7_311, w8_311, w9_311, w10_311, l17_311, l16_311, l15_311, l14_311, l13_311, l12_311, l11_311, l9_311, l8_311 =>
    if l17_311 ≤ l15_311 + 1 then
      G_L_law_j355 r69 L xs F_311 D_311 P_311 w5_311 w6_311 w7_311 w8_311 w9_311 w10_311 l16_311 l15_311 l14_311 l13_311 l12_311 l11_311 l9_311 l8_311
    else
      if l16_311 = 0 then
        (rd 40 w9_311 (l17_311 - 1)).bind fun v335 =>
        (wr 40 w9_311 l17_311 v335).bind fun g336 =>
        (rd 40 w10_311 (l17_311 - 1)).bind fun v347 =>
        (wr 40 w10_311 l17_311 v347).bind fun g348 =>
        (G_L_law_L311 r69 L xs n311) F_311 D_311 P_311 w5_311 w6_311 w7_311 w8_311 g336 g348 (l17_311 + (-1)) l16_311 l15_311 l14_311 l13_311 l12_311 l11_311 l9_311 l8_311
      else
        G_L_law_j355 r69 L xs F_311 D_311 P_311 w5_311 w6_311 w7_311 w8_311 w9_311 w10_311 l16_311 l15_311 l14_311 l13_311 l12_311 l11_311 l9_311 l8_311
def G_L_law_j269 (r69 : Fig → Fig → PastS → (Nat → Int32) → (Nat → Int32) → (Nat → Int32) → (Nat → Int32) → (Nat → Int32) → (Nat → Int32) → Int32 → Option (Int32)) (L : Nat) (xs : Nat → Int32) (F_269 : Fig) (D_269 : Fig) (P_269 : PastS) (w5_269 : Nat → Int32) (w6_269 : Nat → Int32) (w7_269 : Nat → Int32) (w8_269 : Nat → Int32) (w9_269 : Nat → Int32) (w10_269 : Nat → Int32) (l9_269 : Int32) (l8_269 : Int32) : Option (Int32) :=
  G_L_law_j805 r69 L xs F_269 D_269 P_269 w5_269 w6_269 w7_269 w8_269 w9_269 w10_269 l9_269 l8_269
def G_L_law_L69  (L : Nat) (xs : Nat → Int32) : Nat → Fig → Fig → PastS → (Nat → Int32) → (Nat → Int32) → (Nat → Int32) → (Nat → Int32) → (Nat → Int32) → (Nat → Int32) → Int32 → Option (Int32)
  | 0, _, _, _, _, _, _, _, _, _, _ => none
  | n69 + 1, F, D, P, w5, w6, w7, w8, w9, w10, l8_69 =>
    if 12 ≤ l8_69 then
      some 1
    else
      (G_L_cell L xs l8_69).bind fun v79 =>
      (G_L_low v79 8).bind fun v88 =>
      (rd 5 w5 0).bind fun v99 =>
      (G_L_low (v79 >>> ((3 : Int32) &&& 31)) v99).bind fun v100 =>
      (rd 5 w5 (1 + v100)).bind fun v114 =>
      (G_L_low (v79 >>> ((5 : Int32) &&& 31)) v114).bind fun v115 =>
      (G_L_low (v79 >>> ((9 : Int32) &&& 31)) 17).bind fun v127 =>
      (G_L_low (v79 >>> ((14 : Int32) &&& 31)) 17).bind fun v139 =>
      (G_L_copy 5 40 40 5 40 40 w5 w6 w7 w8 w9 w10).bind fun v164 =>
      if 4 ≤ v88 then
        if 6 ≤ v88 then
          if v88 = 6 then
            (rd 5 w5 (1 + v100)).bind fun v482 =>
            ((if v482 = 3 then
                some 1
              else
                some 0) : Option (Int32)).bind fun b484 =>
            G_L_law_L498 (G_L_law_L69 L xs n69) L xs FU F D P w5 w6 w7 v164.1 v164.2.1 v164.2.2 ((10 * v100) + v115) b484 v115 v100 v79 l8_69
          else
            (rd 5 w5 0).bind fun v651 =>
            if 4 ≤ v651 then
              G_L_law_j805 (G_L_law_L69 L xs n69) L xs F D P w5 w6 w7 v164.1 v164.2.1 v164.2.2 v79 l8_69
            else
              (rd 5 v164.1 0).bind fun v662 =>
              (wr 5 v164.1 0 (v662 + 1)).bind fun g666 =>
              (rd 5 g666 0).bind fun v675 =>
              (wr 5 g666 v675 3).bind fun g677 =>
              (wr 40 v164.2.1 (10 * v662) v127).bind fun g684 =>
              (wr 40 v164.2.2 (10 * v662) v139).bind fun g691 =>
              (wr 40 g684 ((10 * v662) + 1) (v127 + 1)).bind fun g702 =>
              (wr 40 g691 ((10 * v662) + 1) v139).bind fun g711 =>
              (wr 40 g702 ((10 * v662) + 2) v127).bind fun g720 =>
              (wr 40 g711 ((10 * v662) + 2) (v139 + 1)).bind fun g731 =>
              (G_L_broken 5 40 40 g677 g720 g731).bind fun v738 =>
              (G_L_addHole F D P v127 v139).bind fun v748 =>
              ((if 14 < v127 then
                  some (-1)
                else
                  if v139 ≤ 14 then
                    if v738 ≤ 0 then
                      (rd 5 w5 0).bind fun v781 =>
                      some v781
                    else
                      some (-2)
                  else
                    some (-1)) : Option (Int32)).bind fun b755 =>
              if v748.1 = b755 then
                if v738 = 0 then
                  (G_L_copy 5 40 40 5 40 40 g677 g720 g731 w5 w6 w7).bind fun v802 =>
                  G_L_law_j805 (G_L_law_L69 L xs n69) L xs v748.2.1 v748.2.2.1 v748.2.2.2 v802.1 v802.2.1 v802.2.2 g677 g720 g731 v79 l8_69
                else
                  G_L_law_j805 (G_L_law_L69 L xs n69) L xs v748.2.1 v748.2.2.1 v748.2.2.2 w5 w6 w7 g677 g720 g731 v79 l8_69
              else
                some 0
        else
          (rd 5 w5 (1 + v100)).bind fun v284 =>
          ((if v284 = 10 then
              some 1
            else
              some 0) : Option (Int32)).bind fun b287 =>
          (rd 5 w5 (1 + v100)).bind fun v307 =>
          G_L_law_L311 (G_L_law_L69 L xs n69) L xs FU F D P w5 w6 w7 v164.1 v164.2.1 v164.2.2 ((10 * v100) + v307) b287 ((10 * v100) + v115) v139 v127 v115 v100 v79 l8_69
      else
        (wr 40 v164.2.1 ((10 * v100) + v115) v127).bind fun g179 =>
        (wr 40 v164.2.2 ((10 * v100) + v115) v139).bind fun g186 =>
        (G_L_broken 5 40 40 v164.1 g179 g186).bind fun v193 =>
        (G_X8_whyNot F D v100 v115 v127 v139).bind fun v207 =>
        match v207.1 with
        | .inl _ => none
        | .inr u207 =>
          if u207 = v193 then
            (G_L_move F v207.2 P v100 v115 v127 v139).bind fun v224 =>
            ((if v193 ≤ 0 then
                (G_L_area 5 40 40 v164.1 g179 g186).bind fun v243 =>
                some v243
              else
                some (-2)) : Option (Int32)).bind fun b229 =>
            if v224.1 = b229 then
              if v193 = 0 then
                (G_L_copy 5 40 40 5 40 40 v164.1 g179 g186 w5 w6 w7).bind fun v266 =>
                G_L_law_j269 (G_L_law_L69 L xs n69) L xs v224.2.1 v224.2.2.1 v224.2.2.2 v266.1 v266.2.1 v266.2.2 v164.1 g179 g186 v79 l8_69
              else
                G_L_law_j269 (G_L_law_L69 L xs n69) L xs v224.2.1 v224.2.2.1 v224.2.2.2 w5 w6 w7 v164.1 g179 g186 v79 l8_69
            else
              some 0
          else
            some 0

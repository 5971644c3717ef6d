/-! ===== text: readPart with its first token read again at each place (the form that the next parts speak of) ===== -/
def hq_208  (rec : hg_W → Int → Int → Option (hg_W × Int))  (w : hg_W) : Option (hg_W × Int) :=
  if wr (w 17 6) = wr (-19) then
    (
      fX2_readPart_207 rec w (w 17 7)
    )
  else
    fX2_readPart_207 rec w (w 17 6)
def hq_69  (rec : hg_W → Int → Int → Option (hg_W × Int))  (w : hg_W) (x1 : Int) (x2 : Int) : Option (hg_W × Int) :=
  if wr 5 ≤ wr x1 then
    (
      if wr (w 17 6) = wr (-16) then
        (
          hg_bd (fX2_opens w x2) fun w1 v2 =>
          if wr v2 = 0 then
            (
              some (w1, 0)
            )
          else
            hg_bd (rec w1 0 (x2 + 1)) fun w4 _ =>
            hg_bd (fX2_must w4 (-17)) fun w7 _ =>
            some (w7, 0)
        )
      else
        if wr (w 17 6) = wr (-19) then
          (
            hq_208 rec w
          )
        else
          if wr (-1) < wr (w 17 6) then
            (
              fX2_readPart_217 rec w
            )
          else
            if wr (w 17 6) < wr (-6) then
              (
                fX2_readPart_217 rec w
              )
            else
              hq_208 rec w
    )
  else
    hg_bd (rec w (x1 + 1) x2) fun w10 _ =>
    if wr x1 = wr 2 then
      (
        fX2_readPart_88 rec w10 x1 x2 1
      )
    else
      fX2_readPart_88 rec w10 x1 x2 160
def hq_66  (rec : hg_W → Int → Int → Option (hg_W × Int))  (w : hg_W) : Option (hg_W × Int) :=
  some (w, 0)
def hq_44  (rec : hg_W → Int → Int → Option (hg_W × Int))  (w : hg_W) (x1 : Int) (x2 : Int) (s0 : Int) : Option (hg_W × Int) :=
  hg_bd (fX2_opens w x2) fun w1 v2 =>
  if wr v2 = 0 then
    (
      hq_66 rec w1
    )
  else
    hg_bd (rec w1 x1 (x2 + 1)) fun w4 _ =>
    hg_bd (fX2_write w4 s0) fun w7 _ =>
    hq_66 rec w7
def hq_28  (rec : hg_W → Int → Int → Option (hg_W × Int))  (w : hg_W) (x1 : Int) (x2 : Int) : Option (hg_W × Int) :=
  if wr (w 17 6) = wr (-9) then
    (
      hq_44 rec w x1 x2 (-9)
    )
  else
    hq_44 rec w x1 x2 (-15)
def hq_14  (rec : hg_W → Int → Int → Option (hg_W × Int))  (w : hg_W) (x1 : Int) (x2 : Int) : Option (hg_W × Int) :=
  if wr x1 = wr 5 then
    (
      if wr (w 17 6) = wr (-13) then
        (
          hq_28 rec w x1 x2
        )
      else
        hq_69 rec w x1 x2
    )
  else
    hq_69 rec w x1 x2
def hq_E (rec : hg_W → Int → Int → Option (hg_W × Int)) (w : hg_W) (a1 : Int) (a2 : Int) : Option (hg_W × Int) :=
  if wr a1 = wr 2 then
    (
      if wr (w 17 6) = wr (-9) then
        (
          hq_28 rec w a1 a2
        )
      else
        hq_14 rec w a1 a2
    )
  else
    hq_14 rec w a1 a2
theorem hq_e192 {rec : hg_W → Int → Int → Option (hg_W × Int)} {w : hg_W} : fX2_readPart_192 rec w (w 17 6) = hq_208 rec w := rfl
theorem hq_e63 {rec : hg_W → Int → Int → Option (hg_W × Int)} {w : hg_W} {x1 x2 : Int} : fX2_readPart_63 rec w x1 x2 (w 17 6) = hq_69 rec w x1 x2 := rfl
theorem hq_e27 {rec : hg_W → Int → Int → Option (hg_W × Int)} {w : hg_W} {x1 x2 : Int} : fX2_readPart_27 rec w x1 x2 (w 17 6) = hq_28 rec w x1 x2 := by
  unfold fX2_readPart_27 hq_28 hq_44
  by_cases q : wr (w 17 6) = wr (-9)
  · simp only [if_pos q]; rfl
  · simp only [if_neg q]; rfl
theorem hq_e16 {rec : hg_W → Int → Int → Option (hg_W × Int)} {w : hg_W} {x1 x2 : Int} : fX2_readPart_16 rec w x1 x2 (w 17 6) = hq_14 rec w x1 x2 := by
  unfold fX2_readPart_16 hq_14
  rw [hq_e27, hq_e63]
theorem hq_eE {rec : hg_W → Int → Int → Option (hg_W × Int)} {w : hg_W} {x1 x2 : Int} : fX2_readPart_E rec w x1 x2 = hq_E rec w x1 x2 := by
  unfold fX2_readPart_E hq_E
  rw [hq_e27, hq_e16]

/-! the law's instructions, by count -/
section LWC2
set_option maxRecDepth 100000
theorem lwc_520 : (((pt 311).drop 520).take 40).all lwK = true := by decide +kernel
theorem lwc_560 : (((pt 311).drop 560).take 40).all lwK = true := by decide +kernel
theorem lwc_600 : (((pt 311).drop 600).take 40).all lwK = true := by decide +kernel
theorem lwc_640 : (((pt 311).drop 640).take 40).all lwK = true := by decide +kernel
theorem lwc_680 : (((pt 311).drop 680).take 40).all lwK = true := by decide +kernel
theorem lwc_720 : (((pt 311).drop 720).take 40).all lwK = true := by decide +kernel
theorem lwc_760 : (((pt 311).drop 760).take 40).all lwK = true := by decide +kernel
theorem lwc_800 : (((pt 311).drop 800).take 40).all lwK = true := by decide +kernel
theorem lwc_840 : (((pt 311).drop 840).take 40).all lwK = true := by decide +kernel
theorem lwc_880 : (((pt 311).drop 880).take 40).all lwK = true := by decide +kernel
theorem lwc_920 : (((pt 311).drop 920).take 40).all lwK = true := by decide +kernel
theorem lwc_960 : (((pt 311).drop 960).take 40).all lwK = true := by decide +kernel
theorem lwc_1000 : (((pt 311).drop 1000).take 40).all lwK = true := by decide +kernel
theorem lwc_e : ((pt 311).drop 1040).all lwK = true := by decide +kernel
theorem lwc_j {α : Type} {l : List α} {f : α → Bool} {a n : Nat} (h1 : ((l.drop a).take n).all f = true) (h2 : (l.drop (a + n)).all f = true) : (l.drop a).all f = true := by
  rw [← List.take_append_drop n (l.drop a), List.all_append, h1, List.drop_drop, h2]
  rfl
theorem lwd_1000 : ((pt 311).drop 1000).all lwK = true := lwc_j (l := pt 311) (f := lwK) (a := 1000) (n := 40) lwc_1000 lwc_e
theorem lwd_960 : ((pt 311).drop 960).all lwK = true := lwc_j (l := pt 311) (f := lwK) (a := 960) (n := 40) lwc_960 lwd_1000
theorem lwd_920 : ((pt 311).drop 920).all lwK = true := lwc_j (l := pt 311) (f := lwK) (a := 920) (n := 40) lwc_920 lwd_960
theorem lwd_880 : ((pt 311).drop 880).all lwK = true := lwc_j (l := pt 311) (f := lwK) (a := 880) (n := 40) lwc_880 lwd_920
theorem lwd_840 : ((pt 311).drop 840).all lwK = true := lwc_j (l := pt 311) (f := lwK) (a := 840) (n := 40) lwc_840 lwd_880
theorem lwd_800 : ((pt 311).drop 800).all lwK = true := lwc_j (l := pt 311) (f := lwK) (a := 800) (n := 40) lwc_800 lwd_840
theorem lwd_760 : ((pt 311).drop 760).all lwK = true := lwc_j (l := pt 311) (f := lwK) (a := 760) (n := 40) lwc_760 lwd_800
theorem lwd_720 : ((pt 311).drop 720).all lwK = true := lwc_j (l := pt 311) (f := lwK) (a := 720) (n := 40) lwc_720 lwd_760
theorem lwd_680 : ((pt 311).drop 680).all lwK = true := lwc_j (l := pt 311) (f := lwK) (a := 680) (n := 40) lwc_680 lwd_720
theorem lwd_640 : ((pt 311).drop 640).all lwK = true := lwc_j (l := pt 311) (f := lwK) (a := 640) (n := 40) lwc_640 lwd_680
theorem lwd_600 : ((pt 311).drop 600).all lwK = true := lwc_j (l := pt 311) (f := lwK) (a := 600) (n := 40) lwc_600 lwd_640
theorem lwd_560 : ((pt 311).drop 560).all lwK = true := lwc_j (l := pt 311) (f := lwK) (a := 560) (n := 40) lwc_560 lwd_600
theorem lwd_520 : ((pt 311).drop 520).all lwK = true := lwc_j (l := pt 311) (f := lwK) (a := 520) (n := 40) lwc_520 lwd_560
theorem lwd_480 : ((pt 311).drop 480).all lwK = true := lwc_j (l := pt 311) (f := lwK) (a := 480) (n := 40) lwc_480 lwd_520
theorem lwd_440 : ((pt 311).drop 440).all lwK = true := lwc_j (l := pt 311) (f := lwK) (a := 440) (n := 40) lwc_440 lwd_480
theorem lwd_400 : ((pt 311).drop 400).all lwK = true := lwc_j (l := pt 311) (f := lwK) (a := 400) (n := 40) lwc_400 lwd_440
theorem lwd_360 : ((pt 311).drop 360).all lwK = true := lwc_j (l := pt 311) (f := lwK) (a := 360) (n := 40) lwc_360 lwd_400
theorem lwd_320 : ((pt 311).drop 320).all lwK = true := lwc_j (l := pt 311) (f := lwK) (a := 320) (n := 40) lwc_320 lwd_360
theorem lwd_280 : ((pt 311).drop 280).all lwK = true := lwc_j (l := pt 311) (f := lwK) (a := 280) (n := 40) lwc_280 lwd_320
theorem lwd_240 : ((pt 311).drop 240).all lwK = true := lwc_j (l := pt 311) (f := lwK) (a := 240) (n := 40) lwc_240 lwd_280
theorem lwd_200 : ((pt 311).drop 200).all lwK = true := lwc_j (l := pt 311) (f := lwK) (a := 200) (n := 40) lwc_200 lwd_240
theorem lwd_160 : ((pt 311).drop 160).all lwK = true := lwc_j (l := pt 311) (f := lwK) (a := 160) (n := 40) lwc_160 lwd_200
theorem lwd_120 : ((pt 311).drop 120).all lwK = true := lwc_j (l := pt 311) (f := lwK) (a := 120) (n := 40) lwc_120 lwd_160
theorem lwd_80 : ((pt 311).drop 80).all lwK = true := lwc_j (l := pt 311) (f := lwK) (a := 80) (n := 40) lwc_80 lwd_120
theorem lwd_40 : ((pt 311).drop 40).all lwK = true := lwc_j (l := pt 311) (f := lwK) (a := 40) (n := 40) lwc_40 lwd_80
theorem lwd_0 : ((pt 311).drop 0).all lwK = true := lwc_j (l := pt 311) (f := lwK) (a := 0) (n := 40) lwc_0 lwd_40
theorem lwc : (pt 311).all lwK = true := by
  have h := lwd_0
  rwa [List.drop_zero] at h
end LWC2

/-! this claim is read over the whole library: its part 06v names rows of the last shelf -/
def e_wide (P : Array Value → State → Prop) : Prop := FrameBlind P

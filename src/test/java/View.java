/** What an object shows, as a text to compare before and after. */
final class View {
    private View() {}

    /** All that is shown by calls that send nothing over the line and change nothing. */
    static String of(LineDebugger x) {
        StringBuilder text = new StringBuilder();
        for (int what = 0; what <= 9; what++) {
            text.append(x.count(what)).append(' ');
        }
        for (int i = 0; i <= 22; i = i == 7 ? 16 : i + 1) {
            text.append(x.byteAt(i)).append(' ');
        }
        return text.append(ofFrames(x)).toString();
    }

    static String ofFrames(LineDebugger x) {
        StringBuilder text = new StringBuilder();
        int frames = x.count(7);
        for (int frame = 0; frame < frames; frame++) {
            text.append("| ");
            for (int r = 0; r <= 8; r++) {
                text.append(x.frame(frame, r)).append(' ');
            }
        }
        return text.toString();
    }

    /** The machine as the stub tells of it: PC, registers and words, by 73 requests. */
    static String ofMachine(LineDebugger x) {
        StringBuilder text = new StringBuilder("PC " + Target.pc(x) + " registers ");
        for (int r = 0; r < 8; r++) {
            text.append(Target.register(x, r)).append(' ');
        }
        text.append("words ");
        for (int address = 0; address < 64; address++) {
            text.append(Target.word(x, address)).append(' ');
        }
        return text.append("steps ").append(x.count(5)).toString();
    }
}

/** All that an object shows by calls that send nothing over the line and change nothing. */
final class View {
    private View() {}

    static String of(LineDebugger x) {
        StringBuilder text = new StringBuilder();
        for (int what = 0; what <= 9; what++) {
            text.append(x.count(what)).append(' ');
        }
        for (int i = 0; i <= 22; i = i == 7 ? 16 : i + 1) {
            text.append(x.byteAt(i)).append(' ');
        }
        for (int frame = 0; frame < x.count(7); frame++) {
            text.append("| ");
            for (int r = 0; r <= 8; r++) {
                text.append(x.frame(frame, r)).append(' ');
            }
        }
        return text.toString();
    }
}

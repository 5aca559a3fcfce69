/** What can be seen of a StackReal, as texts that are compared before and after a call. */
final class Seen {
    private Seen() {
    }

    static String stack(StackReal s) {
        StringBuilder text = new StringBuilder("stack");
        for (int i = 0; i < s.depth(); i++) {
            text.append(" (").append(s.kind(i)).append(' ').append(s.exponent(i)).append(' ')
                    .append(Long.toHexString(s.significand(i))).append(')');
        }
        return text.toString();
    }

    static String cells(StackReal s) {
        StringBuilder text = new StringBuilder("cells");
        for (int cell = 0; cell < 8; cell++) {
            text.append(' ').append(s.memory(cell));
        }
        return text.toString();
    }

    static String butFlagsAndTime(StackReal s) {
        return stack(s) + ", " + cells(s) + ", condition " + s.condition();
    }

    static String all(StackReal s) {
        return butFlagsAndTime(s) + ", flags " + s.flags() + ", time " + s.time();
    }
}

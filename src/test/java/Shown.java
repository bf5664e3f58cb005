import java.util.ArrayList;
import java.util.List;
import java.util.function.IntSupplier;

/** All that the calls of a cabinet show of it, each call with its answer, as far as the calls that it has left go. */
final class Shown {
    private final MarkCabinet cabinet;
    private final List<String> answers = new ArrayList<>();
    private int left;

    private Shown(MarkCabinet cabinet, int left) {
        this.cabinet = cabinet;
        this.left = left;
    }

    static List<String> by(MarkCabinet cabinet, int calls) {
        Shown shown = new Shown(cabinet, calls);
        // what later calls here would change stands first
        shown.latest();
        shown.grid();
        shown.tools();
        shown.prints();
        shown.searches();
        shown.makesMore();
        return shown.answers;
    }

    private int note(String call, IntSupplier asking) {
        if (left <= 0) {
            return MarkCabinet.NONE;
        }
        left--;
        int answer = asking.getAsInt();
        answers.add(call + " = " + answer);
        return answer;
    }

    private void latest() {
        for (int k = 0; k <= 6; k++) {
            int what = k;
            note("told(" + what + ")", () -> cabinet.told(what));
        }
        for (int k = 0; k < 12; k++) {
            int i = k;
            note("pair(" + i + ")", () -> cabinet.pair(i));
        }
        note("struck(0)", () -> cabinet.struck(0));
        note("struck(1)", () -> cabinet.struck(1));
    }

    private void grid() {
        for (int k = 0; k < 16; k++) {
            int y = k;
            note("row(" + y + ")", () -> cabinet.row(y));
        }
        for (int k = 0; k <= 3; k++) {
            int what = k;
            note("count(" + what + ")", () -> cabinet.count(what));
        }
        note("pieces(0)", () -> cabinet.pieces(0));
        note("pieces(1)", () -> cabinet.pieces(1));
    }

    private void tools() {
        for (int k = 0; k <= 9; k++) {
            int tool = k;
            int flaws = note("flaws(" + tool + ")", () -> cabinet.flaws(tool));
            for (int n = 0; n < flaws; n++) {
                int i = n;
                note("flaw(" + tool + ", " + i + ", 0)", () -> cabinet.flaw(tool, i, 0));
                note("flaw(" + tool + ", " + i + ", 1)", () -> cabinet.flaw(tool, i, 1));
            }
        }
        for (int score = -20; score <= 60; score += 20) {
            int s = score;
            note("strangers(" + s + ", 0)", () -> cabinet.strangers(s, 0));
        }
        note("strangers(0, 1)", () -> cabinet.strangers(0, 1));
    }

    private void prints() {
        for (int k = 0; k < 25; k++) {
            int print = k;
            note("of(" + print + ", 0)", () -> cabinet.of(print, 0));
            note("of(" + print + ", 1)", () -> cabinet.of(print, 1));
            int points = note("point(" + print + ", -1)", () -> cabinet.point(print, -1));
            for (int w = 0; w < 3 * points; w++) {
                int what = w;
                note("point(" + print + ", " + what + ")", () -> cabinet.point(print, what));
            }
            if (points < 0) {
                return;
            }
        }
    }

    private void searches() {
        for (int k = 0; k < 4; k++) {
            int print = k;
            note("like(" + print + ")", () -> cabinet.like(print));
            note("age(" + print + ", 1)", () -> cabinet.age(print, 1));
            note("struck(0) behind it", () -> cabinet.struck(0));
            note("match(" + print + ", 1)", () -> cabinet.match(print, 1));
            note("PAIRS of that match", () -> cabinet.told(0));
        }
        // the parts that were struck show in BARE alone
        for (int k = 0; k < 4; k++) {
            int shift = 4 * k - 6;
            note("lay(0, 1, 1, " + shift + ", 1)", () -> cabinet.lay(0, 1, 1, shift, 1));
        }
    }

    private void makesMore() {
        note("reach(0)", () -> cabinet.reach(0));
        note("print(255)", () -> cabinet.print(255));
        note("thin()", cabinet::thin);
    }
}

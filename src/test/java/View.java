/**
 * What later calls show of a court: two courts with one view have nothing that tells them apart. To look
 * changes the court, and is some 330 calls at most, so it is done once, at the end.
 */
final class View {
    private final HistoryCourt court;
    private final StringBuilder text = new StringBuilder();

    private View(HistoryCourt court) {
        this.court = court;
    }

    static String of(HistoryCourt court) {
        View view = new View(court);
        view.note("status", court.status());
        return view.rest();
    }

    /** All but the status, which a refused alter(), answered() or fill() changes. */
    static String withoutStatus(HistoryCourt court) {
        return new View(court).rest();
    }

    private String rest() {
        toldLatest();
        histories();
        judgements();
        row();
        machines();
        return text.toString();
    }

    private void note(String what, long answer) {
        text.append(what).append(' ').append(answer).append('\n');
    }

    private void toldLatest() {
        for (int i = 0; i < 11; i++) {
            note("part " + i, court.part(i));
        }
        for (int i = 0; i < 5; i++) {
            note("fill " + i, court.fill(i));
            note("its status", court.status());
        }
    }

    private void histories() {
        for (int h = 0; h < 13; h++) {
            for (int what = 0; what < 4; what++) {
                note("about " + h + " " + what, court.about(h, what));
            }
        }
        for (int h = 0; h < 3; h++) {
            int calls = court.about(h, 1);
            for (int c = 0; c < calls; c++) {
                for (int what = 0; what < 4; what++) {
                    note("call " + h + " " + c + " " + what, court.call(h, c, what));
                }
                note("answered " + h + " " + c, court.answered(h, c));
            }
        }
    }

    private void judgements() {
        for (int h = 0; h < 4; h++) {
            for (int rule = 0; rule < 3; rule++) {
                note("orders " + h + " " + rule, court.orders(h, rule));
            }
        }
        for (int key = 0; key < 4; key++) {
            note("apart " + key, court.apart(1, Bench.STRICT, key));
        }
    }

    private void row() {
        note("say", court.say(2));
        note("check", court.check(0, Bench.BY_CALLER));
    }

    /** Of each MACHINE: whether its table can be told still; and, by OPEN CALLS, what is told in it. */
    private void machines() {
        for (int m = 0; m < 5; m++) {
            note("row " + m, court.row(m, 7, 3, 0, 0));
            int h = court.history(Bench.MACHINE, m);
            note("history of " + m, h);
            for (int act = 0; act < 4 && h >= 0; act++) {
                court.begin(h, act, act, 0, 0);
            }
            for (int act = 0; act < 4 && h >= 0; act++) {
                note("fills " + act, court.fills(h, Bench.STRICT, act));
                note("fill " + act, court.fill(1));
            }
        }
    }
}

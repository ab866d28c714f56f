/** Promises 12 to 14: undo, the snapshot, and what a state is. */
public final class HistoryTest {
    private static final Check CHECK = new Check();

    public static void main(String[] args) {
        undo();
        undoRestoresAll();
        oldestIsDropped();
        keep();
        restore();
        notPartOfAState();
        CHECK.end("HistoryTest");
    }

    private static void undo() {
        CHECK.about("promise 12");
        ShadowTag tag = new ShadowTag();
        CHECK.due("undo()", tag.undo(), ShadowTag.NONE);
        tag.come(5, 1);
        tag.come(6, 1);
        CHECK.due("undo()", tag.undo(), 1);
        CHECK.due("runners", tag.count(1), 1);
        CHECK.due("undo()", tag.undo(), 0);
        CHECK.due("runners", tag.count(1), 0);
        CHECK.due("catcher", tag.count(2), ShadowTag.NONE);
        CHECK.due("undo()", tag.undo(), ShadowTag.NONE);
        CHECK.due("count(12)", tag.count(12), 0);
    }

    /** All that is told of a state, one behind the other. */
    private static String all(ShadowTag tag) {
        StringBuilder told = new StringBuilder();
        for (int what = 0; what < 12; what++) {
            told.append(tag.count(what)).append(' ');
        }
        for (int runner = 0; runner < 6; runner++) {
            for (int what = 0; what < 8; what++) {
                told.append(tag.runner(runner, what)).append(' ');
            }
        }
        for (int lamp = 0; lamp < 3; lamp++) {
            for (int what = 0; what < 5; what++) {
                told.append(tag.lamp(lamp, what)).append(' ');
            }
        }
        return told.toString();
    }

    private static ShadowTag busy() {
        ShadowTag tag = new ShadowTag();
        Check.perform(tag, "r55h2;r45h3;r57h1;r99h5;d0n;d2w;d3e;l1-;.3");
        tag.setLamp(0, 1, 3);
        tag.setLamp(2, 2, 2);
        return tag;
    }

    private static void undoRestoresAll() {
        CHECK.about("promise 12, states");
        for (int act = 0; act < 11; act++) {
            ShadowTag tag = busy();
            String before = all(tag);
            int answer = act(tag, act);
            CHECK.holds("act " + act + " succeeds", answer >= 0);
            CHECK.due("states", tag.count(12), 4);
            CHECK.holds("act " + act + " changes", !all(tag).equals(before));
            CHECK.due("undo()", tag.undo(), 3);
            CHECK.holds("act " + act + " is undone", all(tag).equals(before));
        }
    }

    private static int act(ShadowTag tag, int act) {
        switch (act) {
            case 0: return tag.come(0, 4);
            case 1: return tag.head(1, 2);
            case 2: return tag.light(1, true);
            case 3: return tag.setLamp(0, 0, 2);
            case 4: return tag.setLamp(1, 1, 2);
            case 5: return tag.setLamp(2, 2, 5);
            case 6: return tag.set(0, 8);
            case 7: return tag.set(1, 1);
            case 8: return tag.pass(1);
            case 9: return tag.pass(99);
            default: return Check.perform(tag, "d0s;.7");
        }
    }

    private static void oldestIsDropped() {
        CHECK.about("promise 12, history of four");
        ShadowTag tag = new ShadowTag();
        for (int turn = 1; turn <= 7; turn++) {
            tag.pass(1);
            CHECK.due("count(12)", tag.count(12), Math.min(turn, 4));
        }
        CHECK.due("undo()", tag.undo(), 3);
        CHECK.due("undo()", tag.undo(), 2);
        CHECK.due("turn", tag.count(0), 5);
        tag.pass(10);
        tag.pass(20);
        CHECK.due("count(12)", tag.count(12), 4);
        int[] turns = {15, 5, 4, 3};
        for (int time = 0; time < 4; time++) {
            CHECK.due("undo()", tag.undo(), 3 - time);
            CHECK.due("turn", tag.count(0), turns[time]);
        }
        CHECK.due("undo()", tag.undo(), ShadowTag.NONE);
        CHECK.due("turn", tag.count(0), 3);
    }

    private static void keep() {
        CHECK.about("promise 13");
        ShadowTag tag = new ShadowTag();
        CHECK.due("keep()", tag.keep(), 0);
        tag.come(5, 1);
        tag.come(6, 1);
        CHECK.due("keep()", tag.keep(), 2);
        CHECK.due("no act", tag.count(12), 2);
        tag.come(7, 1);
        CHECK.due("restore()", tag.restore(), 2);
        CHECK.due("at(7)", tag.at(7), ShadowTag.NONE);
        tag.come(8, 1);
        CHECK.due("in place of the one that was", tag.keep(), 3);
        tag.undo();
        CHECK.due("restore()", tag.restore(), 3);
        CHECK.due("at(8)", tag.at(8), 2);
    }

    private static void restore() {
        CHECK.about("promise 14");
        ShadowTag tag = new ShadowTag();
        CHECK.due("restore()", tag.restore(), ShadowTag.NONE);
        CHECK.due("no act", tag.count(12), 0);
        tag.keep();
        CHECK.due("an empty one", tag.restore(), 0);
        CHECK.due("an act", tag.count(12), 1);
        ShadowTag busy = busy();
        String kept = all(busy);
        CHECK.due("keep()", busy.keep(), 4);
        busy.pass(50);
        busy.come(0, 1);
        String later = all(busy);
        CHECK.due("restore()", busy.restore(), 4);
        CHECK.holds("restored", all(busy).equals(kept));
        CHECK.due("undo()", busy.undo(), 3);
        CHECK.holds("undone", all(busy).equals(later));
        CHECK.due("the snapshot stays", busy.restore(), 4);
        CHECK.holds("restored", all(busy).equals(kept));
        busy.pass(1);
        CHECK.due("restore()", busy.restore(), 4);
        CHECK.holds("restored", all(busy).equals(kept));
    }

    private static void notPartOfAState() {
        CHECK.about("promises 12 to 14, what a state is not");
        ShadowTag tag = new ShadowTag();
        tag.keep();
        tag.come(5, 1);
        Check.write(tag, "d3n");
        CHECK.due("perform()", tag.perform(), ShadowTag.NOT_POSSIBLE);
        CHECK.due("count(12)", tag.count(12), 1);
        tag.undo();
        CHECK.due("text", tag.count(13), 3);
        CHECK.due("stop", tag.stopped(1), ShadowTag.UNKNOWN);
        tag.come(5, 1);
        tag.restore();
        CHECK.due("text", tag.count(13), 3);
        CHECK.due("stop", tag.stopped(0), 0);
        CHECK.due("history", tag.count(12), 2);
        tag.keep();
        tag.come(7, 1);
        tag.undo();
        tag.undo();
        CHECK.due("runners", tag.count(1), 1);
        CHECK.due("undo leaves the snapshot", tag.restore(), 0);
    }
}

import java.util.ArrayList;
import java.util.List;
import java.util.function.Consumer;
import java.util.function.ToIntFunction;

/** Boundary cases that 'HISTORY', 'ERRORS' and the promises 12 to 14 name. */
final class HistoryBoundaries {
    /** A call of which an error or NONE is due. */
    private record Refused(String name, ToIntFunction<ShadowTag> call, int due) {
    }

    /** A call that is an act and succeeds on busy(). */
    private record Act(String name, ToIntFunction<ShadowTag> call) {
    }

    private final Boundary doc;

    HistoryBoundaries(Boundary doc) {
        this.doc = doc;
    }

    void all() {
        atMostFourStates();
        undoAndActsMixed();
        actsRecord();
        othersRecordNothing();
        stateIsEverythingBut();
        stateIsEverything();
        constants();
        noneOnlyIfNoErrorApplies();
        refusedCallsChangeNothing();
        actsBehindRefusedCalls();
        tellingChangesNothing();
        promise12Undo();
        promise12EmptyHistory();
        promise13Keep();
        promise14NoSnapshot();
        promise14Restore();
        promise14IsAnAct();
    }

    /** Six runners, all settings and lamps changed, a full history, a snapshot, a text and a stop. */
    private static ShadowTag busy() {
        ShadowTag tag = Play.with(55, 2, 45, 3, 57, 1, 99, 5, 0, 1, 9, 2);
        tag.head(2, 3);
        tag.head(1, 0);
        tag.light(1, false);
        tag.setLamp(0, 1, 3);
        tag.setLamp(2, 2, 2);
        tag.set(0, 5);
        tag.set(1, 4);
        tag.pass(3);
        tag.keep();
        Check.perform(tag, "d0w;d7n");
        Check.perform(tag, "d0w;r0h1");
        tag.pass(4);
        Check.write(tag, "r50h1;x");
        return tag;
    }

    private static List<Act> acts() {
        List<Act> acts = new ArrayList<>();
        acts.add(new Act("head", tag -> tag.head(3, 0)));
        acts.add(new Act("head for none", tag -> tag.head(2, -1)));
        acts.add(new Act("light on", tag -> tag.light(1, true)));
        acts.add(new Act("light off", tag -> tag.light(0, false)));
        acts.add(new Act("side", tag -> tag.setLamp(1, 0, 3)));
        acts.add(new Act("reach", tag -> tag.setLamp(1, 1, 4)));
        acts.add(new Act("swing", tag -> tag.setLamp(1, 2, 9)));
        acts.add(new Act("setting 0", tag -> tag.set(0, 0)));
        acts.add(new Act("setting 1", tag -> tag.set(1, 9)));
        acts.add(new Act("pass 1", tag -> tag.pass(1)));
        acts.add(new Act("pass 99", tag -> tag.pass(99)));
        acts.add(new Act("perform", tag -> Check.perform(tag, "d4e;.2;l0-")));
        acts.add(new Act("restore", tag -> tag.restore()));
        return acts;
    }

    private void atMostFourStates() {
        doc.says("HISTORY", "A history of at most 4 states is kept",
            "when one more is recorded, the oldest one is dropped; undo() removes and restores the latest one.");
        for (int acts = 0; acts <= 13; acts++) {
            ShadowTag tag = new ShadowTag();
            for (int act = 0; act < acts; act++) {
                doc.due("count(12)", tag.count(12), Math.min(4, act));
                tag.pass(1);
            }
            int states = Math.min(4, acts);
            for (int left = states - 1; left >= 0; left--) {
                doc.due(acts + " acts, undo()", tag.undo(), left);
                doc.due(acts + " acts, the latest", tag.count(0), acts - states + left);
                doc.due("count(12)", tag.count(12), left);
            }
            doc.due("the oldest one was dropped", tag.undo(), ShadowTag.NONE);
            doc.due("count(0)", tag.count(0), acts - states);
        }
    }

    private void undoAndActsMixed() {
        doc.says("HISTORY", "when one more is recorded, the oldest one is dropped; undo() removes and restores the latest one.");
        ShadowTag tag = new ShadowTag();
        List<Integer> states = new ArrayList<>();
        int turn = 0;
        for (int call = 0; call < 160; call++) {
            if (call % 11 < 3 || call % 7 == 5) {
                doc.due("undo() in call " + call, tag.undo(), states.isEmpty() ? ShadowTag.NONE : states.size() - 1);
                turn = states.isEmpty() ? turn : states.remove(states.size() - 1);
            } else {
                tag.pass(1 + call % 5);
                states.add(turn);
                turn += 1 + call % 5;
                if (states.size() > 4) {
                    states.remove(0);
                }
            }
            doc.due("count(0) in call " + call, tag.count(0), turn);
            doc.due("count(12) in call " + call, tag.count(12), states.size());
        }
    }

    private void actsRecord() {
        doc.says("HISTORY", "Each call of a method that is described as an act, and returns no error and not NONE, "
            + "records the state that was before it.");
        doc.due("come", Play.with(55, 1).count(12), 1);
        for (Act act : acts()) {
            ShadowTag tag = busy();
            tag.undo();
            tag.undo();
            String before = Play.told(tag);
            doc.holds(act.name + " succeeds", act.call.applyAsInt(tag) >= 0);
            doc.holds(act.name + " changes something", !Play.told(tag).equals(before));
            doc.due(act.name + " records one state", tag.count(12), 3);
            doc.due("undo()", tag.undo(), 2);
            Check.write(tag, "r50h1;x");
            doc.holds(act.name + " is undone", Play.told(tag).equals(before));
        }
    }

    private void othersRecordNothing() {
        doc.says("HISTORY", "Each call of a method that is described as an act");
        ShadowTag tag = Play.with(55, 1, 45, 1);
        doc.due("keep()", tag.keep(), 2);
        doc.due("keep() is none", tag.count(12), 2);
        doc.due("type()", tag.type('.'), 1);
        doc.due("clearText()", tag.clearText(), 1);
        doc.due("typing is none", tag.count(12), 2);
        doc.due("undo()", tag.undo(), 1);
        doc.due("undo() is none", tag.count(12), 1);
        doc.due("ifTurns", tag.ifTurns(9, 0), 0);
        doc.due("telling is none", tag.count(12), 1);
        doc.due("restore()", tag.restore(), 2);
        doc.due("restore() is one", tag.count(12), 2);
    }

    private void stateIsEverythingBut() {
        doc.says("HISTORY", "A state is everything but the text, the history, the snapshot and the latest stop.");
        ShadowTag tag = Play.with(55, 1);
        tag.keep();
        tag.come(45, 1);
        Check.perform(tag, "d3n");
        tag.keep();
        tag.come(99, 1);
        tag.undo();
        tag.undo();
        doc.due("undo() leaves the text", tag.count(13), 3);
        doc.due("undo() leaves the stop", tag.stopped(1), ShadowTag.UNKNOWN);
        doc.due("undo() leaves the snapshot", tag.restore(), 2);
        doc.due("restore() leaves the history", tag.count(12), 2);
        doc.due("restore() leaves the text", tag.count(13), 3);
        doc.due("restore() leaves the stop", tag.stopped(0), 0);
        tag.clearText();
        tag.type('x');
        Check.perform(tag, "l0-;d5n");
        doc.due("restore()", tag.restore(), 2);
        doc.due("not the text of then", tag.count(13), 7);
        doc.due("not the stop of then", tag.stopped(0), 1);
    }

    private void stateIsEverything() {
        doc.says("HISTORY", "A state is everything but the text, the history, the snapshot and the latest stop.");
        for (Act act : acts()) {
            ShadowTag tag = busy();
            tag.keep();
            Check.write(tag, "");
            String before = Play.told(tag);
            doc.holds(act.name + " succeeds", act.call.applyAsInt(tag) >= 0);
            doc.due("restore()", tag.restore(), 6);
            tag.clearText();
            doc.holds("restore() brings all back that " + act.name + " changed", Play.told(tag).equals(before));
        }
        // What cannot be told at once shows in turns: each object must go on as the other does.
        ShadowTag restored = busy();
        restored.keep();
        restored.pass(99);
        restored.set(0, 0);
        restored.restore();
        ShadowTag untouched = busy();
        for (int turn = 0; turn < 10; turn++) {
            doc.due("tags", restored.pass(1), untouched.pass(1));
            doc.holds("the same in turn " + turn, Play.brief(restored).equals(Play.brief(untouched)));
        }
    }

    private void constants() {
        doc.says("ERRORS", "`UNKNOWN = -1`: There is no such runner, lamp, cell or setting.",
            "`BAD_VALUE = -2`: Another argument is out of range.", "`FULL = -3`: There is no more room.",
            "`NOT_POSSIBLE = -4`: This is not possible.", "`NONE = -5`: There is no such thing; not an error.");
        doc.due("UNKNOWN", ShadowTag.UNKNOWN, -1);
        doc.due("BAD_VALUE", ShadowTag.BAD_VALUE, -2);
        doc.due("FULL", ShadowTag.FULL, -3);
        doc.due("NOT_POSSIBLE", ShadowTag.NOT_POSSIBLE, -4);
        doc.due("NONE", ShadowTag.NONE, -5);
        ShadowTag tag = Play.with(55, 1);
        doc.due("no such runner", tag.reason(1), -1);
        doc.due("no such lamp", tag.light(3, true), -1);
        doc.due("no such cell", tag.at(100), -1);
        doc.due("no such setting", tag.set(2, 1), -1);
        doc.due("another argument", tag.come(5, 9), -2);
        doc.due("not possible", tag.come(55, 1), -4);
        doc.due("no such thing", tag.at(5), -5);
    }

    private void noneOnlyIfNoErrorApplies() {
        doc.says("ERRORS", "Where several errors can apply, the order of the @return line is the order of the checks.",
            "NONE is no error; it is returned only if no error applies.");
        ShadowTag tag = new ShadowTag();
        doc.due("head", tag.head(0, -1), ShadowTag.UNKNOWN);
        doc.due("light", tag.light(3, true), ShadowTag.UNKNOWN);
        doc.due("setLamp", tag.setLamp(3, 1, 1), ShadowTag.UNKNOWN);
        doc.due("setLamp", tag.setLamp(0, 3, 0), ShadowTag.BAD_VALUE);
        doc.due("set", tag.set(2, 0), ShadowTag.UNKNOWN);
        doc.due("stopped", tag.stopped(2), ShadowTag.BAD_VALUE);
        doc.due("at", tag.at(100), ShadowTag.UNKNOWN);
        doc.due("stepsTo", tag.stepsTo(0), ShadowTag.UNKNOWN);
        doc.due("ifTurns", tag.ifTurns(0, 1), ShadowTag.BAD_VALUE);
        doc.due("ifTurns", tag.ifTurns(100, 2), ShadowTag.BAD_VALUE);
        doc.due("shadow", tag.shadow(0, 0, 1), ShadowTag.UNKNOWN);
        tag.come(95, 1);
        doc.due("shadow", tag.shadow(0, 0, 3), ShadowTag.BAD_VALUE);
        doc.due("shadow", tag.shadow(0, 3, 1), ShadowTag.UNKNOWN);
        doc.due("shadow", tag.shadow(0, 0, 1), ShadowTag.NONE);
    }

    private static List<Refused> refusedCalls() {
        List<Refused> calls = new ArrayList<>();
        calls.add(new Refused("come beside the cells", tag -> tag.come(100, 1), ShadowTag.UNKNOWN));
        calls.add(new Refused("come too small", tag -> tag.come(50, 0), ShadowTag.BAD_VALUE));
        calls.add(new Refused("come onto a runner", tag -> tag.come(tag.runner(3, 0), 1), ShadowTag.NOT_POSSIBLE));
        calls.add(new Refused("come as the seventh", tag -> tag.come(50, 1), ShadowTag.FULL));
        calls.add(new Refused("head of nobody", tag -> tag.head(6, 1), ShadowTag.UNKNOWN));
        calls.add(new Refused("head elsewhere", tag -> tag.head(3, 4), ShadowTag.BAD_VALUE));
        calls.add(new Refused("head for none already", tag -> tag.head(3, -1), ShadowTag.NONE));
        calls.add(new Refused("light of no lamp", tag -> tag.light(3, false), ShadowTag.UNKNOWN));
        calls.add(new Refused("light off already", tag -> tag.light(1, false), ShadowTag.NONE));
        calls.add(new Refused("setLamp of no lamp", tag -> tag.setLamp(-1, 0, 0), ShadowTag.UNKNOWN));
        calls.add(new Refused("setLamp of nothing", tag -> tag.setLamp(0, 3, 0), ShadowTag.BAD_VALUE));
        calls.add(new Refused("setLamp too far", tag -> tag.setLamp(0, 1, 5), ShadowTag.BAD_VALUE));
        calls.add(new Refused("setLamp as it is", tag -> tag.setLamp(0, 1, 3), ShadowTag.NONE));
        calls.add(new Refused("set of nothing", tag -> tag.set(2, 0), ShadowTag.UNKNOWN));
        calls.add(new Refused("set too far", tag -> tag.set(0, 10), ShadowTag.BAD_VALUE));
        calls.add(new Refused("set as it is", tag -> tag.set(0, 5), ShadowTag.NONE));
        calls.add(new Refused("pass no turn", tag -> tag.pass(0), ShadowTag.BAD_VALUE));
        calls.add(new Refused("pass too many", tag -> tag.pass(100), ShadowTag.BAD_VALUE));
        calls.add(new Refused("perform with a fault", tag -> tag.perform(), -106));
        calls.add(new Refused("stopped of nothing", tag -> tag.stopped(2), ShadowTag.BAD_VALUE));
        calls.add(new Refused("ifTurns of none", tag -> tag.ifTurns(0, 0), ShadowTag.BAD_VALUE));
        calls.add(new Refused("count of nothing", tag -> tag.count(14), ShadowTag.BAD_VALUE));
        return calls;
    }

    private void refusedCallsChangeNothing() {
        doc.says("ERRORS", "A call that returns an error or NONE changes nothing (but for the latest stop of perform()).");
        for (Refused refused : refusedCalls()) {
            dueUnchanged(refused, setup -> { }, -106);
        }
        Consumer<ShadowTag> full = tag -> Check.write(tag, "r50h1;.1;.1;.1;.1;.1;.1;.1;.1;.1;.1;.1;.1;.1;.1;.1;.1;.1;.1;");
        dueUnchanged(new Refused("type too much", tag -> tag.type('x'), ShadowTag.FULL), full, -160);
        ShadowTag stopping = busy();
        Check.write(stopping, "d3n;l0-;.4;l2-;r100h1");
        doc.due("a fault behind", stopping.perform(), -118);
        Check.write(stopping, "d3n;l0-;.4;l2-;r0h1;d9n");
        doc.due("a fault behind", stopping.perform(), -121);
        String before = Play.brief(stopping);
        Check.write(stopping, "d3n;l0-;.4;l2-;r1h1;d5n");
        doc.due("a stop", stopping.perform(), ShadowTag.NOT_POSSIBLE);
        doc.due("but for the latest stop", stopping.stopped(0), 4);
        doc.due("but for the latest stop", stopping.stopped(1), ShadowTag.FULL);
        doc.holds("nothing else", Play.brief(stopping).equals(before));
    }

    /** A refused call leaves all that is told, and what undo(), restore() and perform() bring, as it would be without it. */
    private void dueUnchanged(Refused refused, Consumer<ShadowTag> setUp, int dueOfText) {
        ShadowTag tag = busy();
        ShadowTag untouched = busy();
        setUp.accept(tag);
        setUp.accept(untouched);
        String before = Play.told(untouched);
        doc.due(refused.name, refused.call.applyAsInt(tag), refused.due);
        doc.holds(refused.name + " changes nothing that is told", Play.told(tag).equals(before));
        doc.due(refused.name + " leaves the text", tag.perform(), dueOfText);
        for (int states = 3; states >= -1; states--) {
            int due = states < 0 ? ShadowTag.NONE : states;
            doc.due(refused.name + " leaves the history, undo()", tag.undo(), due);
            untouched.undo();
            doc.holds(refused.name + " leaves the history", Play.brief(tag).equals(Play.brief(untouched)));
        }
        doc.due(refused.name + " leaves the snapshot", tag.restore(), untouched.restore());
        doc.holds(refused.name + " leaves the snapshot", Play.brief(tag).equals(Play.brief(untouched)));
    }

    /** What a stopped game, turns that are only looked at, or an undone act brought leaves no trace in the next act. */
    private void actsBehindRefusedCalls() {
        doc.says("ERRORS", "A call that returns an error or NONE changes nothing (but for the latest stop of perform()).");
        for (Act act : acts()) {
            ShadowTag untouched = busy();
            int answer = act.call.applyAsInt(untouched);
            String due = Play.state(untouched);
            ShadowTag stopped = busy();
            int stop = Check.perform(stopped, "l0-;l1+;d0e;d1s;d3w;.9;l2-;.50;r50h1");
            doc.due("a game is stopped", stop, ShadowTag.NOT_POSSIBLE);
            doc.due(act.name + " behind a stopped game", act.call.applyAsInt(stopped), answer);
            doc.holds(act.name + " behind a stopped game", Play.state(stopped).equals(due));
            ShadowTag looked = busy();
            looked.ifTurns(77, 0);
            doc.due(act.name + " behind ifTurns()", act.call.applyAsInt(looked), answer);
            doc.holds(act.name + " behind ifTurns()", Play.state(looked).equals(due));
            ShadowTag undone = busy();
            undone.pass(31);
            undone.undo();
            doc.due(act.name + " behind undo()", act.call.applyAsInt(undone), answer);
            doc.holds(act.name + " behind undo()", Play.state(undone).equals(due));
        }
    }

    private void tellingChangesNothing() {
        doc.says("ERRORS", "A call that returns an error or NONE changes nothing");
        ShadowTag tag = busy();
        String before = Play.told(tag);
        for (int argument : new int[] {-1, 0, 3, 5, 6, 99, 100}) {
            for (int what = -1; what < 3; what++) {
                tag.shadow(argument, 0, what);
                tag.ifTurns(argument, what);
                tag.runner(argument, what + 6);
                tag.lamp(argument, what + 3);
            }
            tag.darkness(argument);
            tag.looked(argument);
            tag.at(argument);
            tag.reason(argument);
            tag.stepsTo(argument);
            tag.safest();
        }
        doc.holds("telling changes nothing", Play.told(tag).equals(before));
        doc.due("perform()", tag.perform(), -106);
        doc.due("undo()", tag.undo(), 3);
        doc.due("restore()", tag.restore(), 6);
    }

    private void promise12Undo() {
        doc.says("Promise 12", "Removes and restores the latest state of the history.",
            "Returns the number of states that are left");
        ShadowTag tag = new ShadowTag();
        tag.come(55, 1);
        tag.come(45, 1);
        tag.pass(1);
        tag.light(0, false);
        tag.set(0, 0);
        int[][] due = {{1, 2, 1, 2, 3}, {1, 2, 1, 3, 3}, {0, 2, 0, 3, 3}, {0, 1, 0, 3, 3}};
        for (int undone = 0; undone < 4; undone++) {
            doc.due("undo()", tag.undo(), 3 - undone);
            int[] whats = {0, 1, 2, 3, 10};
            for (int place = 0; place < 5; place++) {
                doc.due("count(" + whats[place] + ")", tag.count(whats[place]), due[undone][place]);
            }
        }
        doc.due("undo()", tag.undo(), ShadowTag.NONE);
        doc.due("it is not undone that he came", tag.at(55), 0);
    }

    private void promise12EmptyHistory() {
        doc.says("Promise 12", "NONE if the history is empty.");
        ShadowTag tag = new ShadowTag();
        doc.due("undo()", tag.undo(), ShadowTag.NONE);
        tag.come(100, 1);
        tag.light(0, true);
        tag.type('x');
        tag.perform();
        doc.due("refused calls do not fill it", tag.undo(), ShadowTag.NONE);
        tag.come(55, 1);
        doc.due("undo()", tag.undo(), 0);
        for (int time = 0; time < 5; time++) {
            doc.due("undo()", tag.undo(), ShadowTag.NONE);
            doc.due("count(12)", tag.count(12), 0);
        }
        tag.come(45, 1);
        doc.due("count(12)", tag.count(12), 1);
        doc.due("undo()", tag.undo(), 0);
        doc.due("count(1)", tag.count(1), 0);
    }

    private void promise13Keep() {
        doc.says("Promise 13", "Takes a snapshot of the state, in place of the one that was.", "Returns how many runners there are.");
        ShadowTag tag = new ShadowTag();
        for (int runners = 0; runners <= 6; runners++) {
            doc.due("keep()", tag.keep(), runners);
            tag.come(runners, 1);
        }
        doc.due("keep()", tag.keep(), 6);
        doc.due("no act", tag.count(12), 4);
        tag.undo();
        doc.due("in place of the one that was", tag.keep(), 5);
        tag.pass(9);
        doc.due("restore()", tag.restore(), 5);
        doc.due("count(0)", tag.count(0), 0);
    }

    private void promise14NoSnapshot() {
        doc.says("Promise 14", "NONE if there is no snapshot.");
        doc.says("HISTORY", "There is one snapshot, empty at first.");
        ShadowTag tag = Play.with(55, 1);
        for (int time = 0; time < 3; time++) {
            doc.due("restore()", tag.restore(), ShadowTag.NONE);
            doc.due("count(1)", tag.count(1), 1);
            doc.due("count(12)", tag.count(12), 1);
        }
        doc.due("keep()", tag.keep(), 1);
        doc.due("restore()", tag.restore(), 1);
        ShadowTag empty = new ShadowTag();
        empty.keep();
        empty.come(55, 1);
        doc.due("a snapshot without runners", empty.restore(), 0);
        doc.due("count(1)", empty.count(1), 0);
        doc.due("count(2)", empty.count(2), ShadowTag.NONE);
        doc.due("count(12)", empty.count(12), 2);
        doc.due("at(55)", empty.at(55), ShadowTag.NONE);
    }

    private void promise14Restore() {
        doc.says("Promise 14", "Restores the state of the snapshot, which stays.", "Returns how many runners there are then");
        ShadowTag tag = Play.with(55, 1, 45, 1);
        tag.head(1, 1);
        tag.keep();
        for (int time = 0; time < 6; time++) {
            tag.pass(1 + time);
            tag.come(99, 2);
            tag.head(1, -1);
            doc.due("restore()", tag.restore(), 2);
            doc.due("count(0)", tag.count(0), 0);
            doc.due("runner(1, 2)", tag.runner(1, 2), 1);
            doc.due("at(99)", tag.at(99), ShadowTag.NONE);
            doc.due("catcher", tag.count(2), 0);
        }
    }

    private void promise14IsAnAct() {
        doc.says("Promise 14", "This is an act.");
        ShadowTag tag = Play.with(55, 1);
        tag.keep();
        doc.due("to the same state, too", tag.restore(), 1);
        doc.due("count(12)", tag.count(12), 2);
        tag.come(45, 1);
        tag.come(44, 1);
        doc.due("with a full history", tag.restore(), 1);
        doc.due("count(12)", tag.count(12), 4);
        doc.due("undo()", tag.undo(), 3);
        doc.due("count(1)", tag.count(1), 3);
        doc.due("undo()", tag.undo(), 2);
        doc.due("undo()", tag.undo(), 1);
        doc.due("undo()", tag.undo(), 0);
        doc.due("the oldest one is dropped", tag.count(1), 1);
    }
}

import java.util.function.Consumer;
import java.util.function.Supplier;

/**
 * The edges that the document names of the saved states and of the digest: "Undo" of the terms, undo()
 * and digest(). The sentence of the document stands over each test.
 */
public final class UndoEdgesTest {
    private static final Class<IllegalStateException> STATE = IllegalStateException.class;

    public static void main(String[] args) {
        noSavedState();
        atMostFourStates();
        theOldestIsDroppedFirst();
        onceForEachCall();
        evenIfNothingChanges();
        callsThatAreNotUndoable();
        everythingExceptTheText();
        restoresWhatLaterCallsTell();
        undoIsNotUndone();
        savedAgainAfterUndo();
        lastOfAllCalls();
        digestOfNothing();
        digestOfEachPart();
        digestOfAllStars();
        digestOfMisses();
        digestOfLargeCorrections();
        Checks.finish("UndoEdgesTest");
    }

    /** "Throws IllegalStateException if there is no saved state" */
    private static void noSavedState() {
        BentScope scope = new BentScope();
        Checks.dueThrow("at first", STATE, () -> scope.undo());
        scope.set(0, 1);
        Checks.due("the only one", scope.undo(), 0);
        Checks.dueThrow("none is left", STATE, () -> scope.undo());
        Checks.dueThrow("still none", STATE, () -> scope.undo());
    }

    /** "at most 4 states are saved" */
    private static void atMostFourStates() {
        for (int calls = 0; calls <= 12; calls++) {
            BentScope scope = new BentScope();
            for (int call = 1; call <= calls; call++) {
                scope.set(0, 100 + call);
            }
            int saved = Math.min(4, calls);
            for (int left = saved - 1; left >= 0; left--) {
                Checks.due("states that remain of " + calls, scope.undo(), left);
            }
            Checks.dueThrow("none is left of " + calls, STATE, () -> scope.undo());
            Checks.due("speed", scope.setting(0), calls <= 4 ? 60 : 100 + calls - 4);
        }
    }

    /** "and the oldest is dropped first" */
    private static void theOldestIsDroppedFirst() {
        BentScope scope = new BentScope();
        for (int star = 0; star < 7; star++) {
            scope.addStar(star, star);
        }
        for (int stars = 6; stars >= 3; stars--) {
            Checks.due("undo", scope.undo(), stars - 3);
            Checks.due("stars", scope.value(0), stars);
        }
        Checks.dueThrow("those before are dropped", STATE, () -> scope.undo());
        Checks.due("stars", scope.value(0), 3);
    }

    private static void dueOneState(String what, Supplier<BentScope> maker, Consumer<BentScope> call) {
        BentScope scope = maker.get();
        int before = Digests.savedStates(maker.get());
        call.accept(scope);
        Checks.due(what + ": saved states", Digests.savedStates(scope), Math.min(4, before + 1));
        if (before < 4) {
            Twins.dueAlike(what + " undone", maker, () -> {
                BentScope undone = maker.get();
                call.accept(undone);
                Checks.due(what + ": states that remain", undone.undo(), before);
                return undone;
            });
        }
    }

    /** Two saved states, a text, and a latest aim that can be learned from. */
    private static BentScope twoStates() {
        BentScope scope = Scopes.busy();
        scope.undo();
        scope.undo();
        scope.undo();
        scope.aim(1);
        return scope;
    }

    /** "Each successful call of a method whose description says "undoable" saves the state from before the call" */
    private static void onceForEachCall() {
        dueOneState("set", UndoEdgesTest::twoStates, scope -> scope.set(2, 77));
        dueOneState("setBend", UndoEdgesTest::twoStates, scope -> scope.setBend(1, 1, 77));
        dueOneState("addStar", UndoEdgesTest::twoStates, scope -> scope.addStar(7, 7));
        dueOneState("aim", UndoEdgesTest::twoStates, scope -> scope.aim(0));
        dueOneState("learn", UndoEdgesTest::twoStates, scope -> scope.learn());
        dueOneState("learnAll", UndoEdgesTest::twoStates, scope -> scope.learnAll());
        dueOneState("forget", UndoEdgesTest::twoStates, scope -> scope.forget(1));
        dueOneState("carryOut", UndoEdgesTest::twoStates, scope -> scope.carryOut());
        dueOneState("a fifth state", Scopes::busy, scope -> scope.forget(1));
        dueOneState("a fifth state", Scopes::busy, scope -> scope.carryOut());
    }

    /** "even if the call changes nothing" */
    private static void evenIfNothingChanges() {
        dueOneState("set", UndoEdgesTest::twoStates, scope -> scope.set(0, scope.setting(0)));
        dueOneState("setBend", UndoEdgesTest::twoStates, scope -> scope.setBend(0, 1, scope.bend(0, 1)));
        dueOneState("learnAll", BentScope::new, scope -> scope.learnAll());
        dueOneState("forget", UndoEdgesTest::twoStates, scope -> scope.forget(20));
        dueOneState("carryOut", BentScope::new, scope -> scope.carryOut());
        dueOneState("carryOut", UndoEdgesTest::learnedWithLesson, scope -> scope.carryOut());
    }

    private static BentScope learnedWithLesson() {
        BentScope scope = new BentScope();
        scope.aim(scope.addStar(0, 2700));
        scope.learn();
        Checks.append(scope, "l;");
        return scope;
    }

    /** Only what "says "undoable"" saves a state. */
    private static void callsThatAreNotUndoable() {
        BentScope scope = twoStates();
        scope.star(0, 0);
        scope.correction(0, false);
        scope.source(0);
        scope.lessons(0);
        scope.miss(0);
        scope.value(0);
        scope.setting(0);
        scope.bend(0, 0);
        scope.missOf(0);
        scope.slewTo(0);
        scope.found();
        scope.nearest();
        scope.tour(3, 0);
        scope.append('x');
        scope.carryOut();
        scope.clearText();
        scope.append('y');
        scope.digest();
        Checks.due("saved states", Digests.savedStates(scope), 2);
    }

    /** "The saved state contains everything except the text." */
    private static void everythingExceptTheText() {
        BentScope scope = new BentScope();
        scope.set(0, 1);
        Checks.append(scope, "b00+5;b01+5;");
        Checks.due("undo", scope.undo(), 0);
        Checks.due("the text is not taken back", scope.append('l'), 13);
        scope.set(0, 1);
        scope.clearText();
        Checks.append(scope, "b00+7;");
        scope.undo();
        Checks.due("nor put back", scope.carryOut(), 1);
        Checks.due("its bytes are the later ones", scope.bend(0, 0), 7);
        scope.undo();
        Checks.due("carryOut leaves it, too", scope.clearText(), 6);
    }

    /** "everything": with the lessons that are left to learn and the corrections that held then */
    private static void restoresWhatLaterCallsTell() {
        Twins.dueAlike("aim and undo", () -> twoStates(), () -> {
            BentScope scope = twoStates();
            scope.aim(0);
            scope.undo();
            return scope;
        });
        Twins.dueAlike("many calls and as many undos", () -> twoStates(), () -> {
            BentScope scope = twoStates();
            scope.learnAll();
            scope.forget(16);
            scope.undo();
            scope.undo();
            scope.aim(3);
            scope.learn();
            scope.undo();
            scope.undo();
            return scope;
        });
        BentScope scope = new BentScope();
        scope.addStar(0, 2700);
        scope.aim(0);
        scope.addStar(0, 2700);
        scope.aim(1);
        scope.undo();
        scope.undo();
        Checks.due("a star anew", scope.addStar(9, 9), 1);
        Checks.due("it has no aims", scope.star(1, 5), 0);
        Checks.due("and no finds", scope.star(1, 6), 0);
        Checks.due("aims", scope.value(5), 1);
    }

    /** "Restores the most recently saved state and removes it from the saved states." */
    private static void undoIsNotUndone() {
        BentScope scope = new BentScope();
        scope.set(0, 1);
        scope.set(0, 2);
        Checks.due("undo", scope.undo(), 1);
        Checks.due("speed", scope.setting(0), 1);
        Checks.due("undo", scope.undo(), 0);
        Checks.due("speed", scope.setting(0), 60);
        Checks.dueThrow("no way back", STATE, () -> scope.undo());
    }

    /** "at most 4 states are saved": after an undo there is room for as many again. */
    private static void savedAgainAfterUndo() {
        BentScope scope = new BentScope();
        for (int speed = 1; speed <= 5; speed++) {
            scope.set(0, speed);
        }
        Checks.due("undo", scope.undo(), 3);
        Checks.due("undo", scope.undo(), 2);
        for (int speed = 11; speed <= 13; speed++) {
            scope.set(0, speed);
        }
        int[] speeds = {12, 11, 3, 2};
        for (int i = 0; i < 4; i++) {
            Checks.due("undo", scope.undo(), 3 - i);
            Checks.due("speed", scope.setting(0), speeds[i]);
        }
        Checks.dueThrow("none is left", STATE, () -> scope.undo());
    }

    /** "An object is used for at most 512 calls after it has been made": the last of them answers, too. */
    private static void lastOfAllCalls() {
        BentScope scope = new BentScope();
        scope.addStar(100, 2700);
        for (int lesson = 1; lesson <= 255; lesson++) {
            Checks.due("aim", scope.aim(0), lesson == 1 ? 2 : 0);
            Checks.due("learn", scope.learn(), lesson);
        }
        Checks.due("call 512", scope.value(8), 255);
        BentScope other = new BentScope();
        for (int call = 1; call <= 508; call++) {
            other.set(0, call);
        }
        for (int left = 3; left >= 0; left--) {
            Checks.due("calls 509 to 512", other.undo(), left);
        }
    }

    /** "Start with h = 3697" */
    private static void digestOfNothing() {
        long h = 31 * 3697L;
        int[] values = {0, 0, 2700, 0, 0, 0, 0, 0, 0, 0, -1, 0, 60, 50, 10, 600, 5100};
        for (int value : values) {
            h = 31 * h + value;
        }
        // 8 bends, 24 regions with 3 numbers each, and the saved states: all are 0.
        for (int i = 0; i < 8 + 72 + 1; i++) {
            h = 31 * h;
        }
        Checks.due("new", new BentScope().digest(), h);
    }

    /** "the length of the text; value() for 0 to 11; setting() for 0 to 4; bend() ... the number of saved states" */
    private static void digestOfEachPart() {
        Digests.due("nothing", BentScope::new);
        Digests.due("a busy one", Scopes::busy);
        Digests.due("a learned one", Scopes::learned);
        Digests.due("a late one", () -> Scopes.late(0));
        Digests.due("two saved states", UndoEdgesTest::twoStates);
        for (int length : new int[] {1, 99, 100}) {
            Digests.due("a text of " + length, () -> {
                BentScope scope = new BentScope();
                for (int i = 0; i < length; i++) {
                    scope.append('x');
                }
                return scope;
            });
        }
    }

    /** "for each star the values of star() for what = 0 to 6": all 20 of them */
    private static void digestOfAllStars() {
        Digests.due("a full one", Scopes::full);
        Digests.due("a full one that learned", () -> {
            BentScope scope = Scopes.full();
            scope.learnAll();
            return scope;
        });
    }

    /** "if there was an aim, Double.doubleToLongBits() of miss() for 0 to 2" */
    private static void digestOfMisses() {
        for (int bend : new int[] {0, 1, -1, 2, -2, 3, 4, 64, 120}) {
            Digests.due("a miss of " + bend, () -> {
                BentScope scope = new BentScope();
                scope.setBend(0, 2, bend);
                scope.aim(scope.addStar(0, 1234));
                return scope;
            });
        }
        for (int bend = -120; bend <= 120; bend += 8) {
            int azimuthBend = bend;
            Digests.due("misses", () -> {
                BentScope scope = new BentScope();
                scope.setBend(0, 0, azimuthBend);
                scope.setBend(0, 1, azimuthBend / 3);
                scope.setBend(0, 3, -azimuthBend / 7);
                scope.addStar(0, 1234);
                scope.aim(0);
                return scope;
            });
        }
        Digests.due("an aim that was undone", () -> {
            BentScope scope = new BentScope();
            scope.addStar(0, 1234);
            scope.aim(0);
            scope.undo();
            return scope;
        });
    }

    /** "Double.doubleToLongBits() of correction()": at the horizon and the top it grows with each lesson. */
    private static void digestOfLargeCorrections() {
        for (int rounds = 1; rounds <= 256; rounds *= 2) {
            int times = rounds;
            for (int side = 0; side < 2; side++) {
                int bend = side == 0 ? 120 : -120;
                int star = side == 0 ? 0 : 5400;
                Supplier<BentScope> maker = () -> {
                    BentScope scope = new BentScope();
                    scope.set(1, 97);
                    scope.set(3, 0);
                    scope.set(4, 5400);
                    scope.setBend(0, 2, bend);
                    scope.addStar(0, star);
                    Checks.append(scope, "a0;l;a0;l;a0;l;a0;l;a0;l;");
                    for (int i = 0; i < times; i++) {
                        scope.carryOut();
                    }
                    return scope;
                };
                Digests.due("a growing correction", maker);
            }
        }
    }
}

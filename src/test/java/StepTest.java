/** Promise 6: one step, place by place. */
public final class StepTest {
    public static void main(String[] args) {
        Check check = new Check();
        wrongInputs(check);
        publishingInTheOrderOfSteps(check);
        lookingPastOwnAndUnlikeEntries(check);
        lowerClaimsItselfFirst(check);
        higherClaimsTheOtherFirst(check);
        ownVersionIsItsOwn(check);
        pairedWhileAsleep(check);
        firstHeldByAnother(check);
        firstOfAnOlderOffer(check);
        firstThatIsPairedStaysClean(check);
        secondHeldByAnotherGoesBack(check);
        secondOfAnOlderOffer(check);
        pairedAtBack(check);
        closedAtSecond(check);
        endsWhereItIs(check);
        notCleanBehindAFinish(check);
        goesOnWithTheNumber(check);
        valueIsKeptWhenTheOtherIsGone(check);
        check.exitIfWrong();
    }

    private static void wrongInputs(Check check) {
        RendezvousDesk desk = Desks.live(4);
        check.throwing("step(-1)", Check.OUT_OF_BOUNDS, () -> desk.step(-1));
        check.throwing("step(16)", Check.OUT_OF_BOUNDS, () -> desk.step(16));
        check.throwing("step(5)", Check.ILLEGAL_STATE, () -> desk.step(5));
        check.steps(desk, 4, 4, 4);
    }

    private static void publishingInTheOrderOfSteps(Check check) {
        RendezvousDesk desk = Desks.live(0, 9);
        desk.guard(0, 0, 2, 0, true);
        desk.guard(0, 0, 2, 0, true);
        desk.offer(0);
        Desks.send(desk, 9, 2, 5);
        check.steps(desk, 0, 0);
        check.place(desk, 0, Desks.PUBLISHING);
        check.steps(desk, 9, 0);
        check.steps(desk, 0, 0);
        check.place(desk, 0, Desks.LOOKING);
        int[][] entries = {{0, 1, 0}, {9, 1, 0}, {0, 1, 1}};
        for (int i = 0; i < entries.length; i++) {
            for (int what = 0; what < 3; what++) {
                check.due("waiting(2, " + i + ", " + what + ")", entries[i][what],
                        desk.waiting(2, i, what));
            }
        }
    }

    private static void lookingPastOwnAndUnlikeEntries(Check check) {
        RendezvousDesk desk = Desks.live(3, 4, 5);
        Desks.send(desk, 4, 1, 40);
        desk.step(4);
        desk.guard(3, 1, 1, 30, true);
        desk.guard(3, 0, 1, 0, true);
        desk.offer(3);
        Desks.steps(desk, 3, 2);
        // For guard 0: the other's send, its own two entries, and the end of the list.
        for (int i = 0; i < 4; i++) {
            check.steps(desk, 3, 0);
            check.place(desk, 3, Desks.LOOKING);
        }
        check.steps(desk, 3, 0);
        check.place(desk, 3, Desks.FIRST);
        check.due("looking holds nothing", Desks.OPEN, desk.process(4, 0));
        RendezvousDesk alone = Desks.live(3);
        alone.guard(3, 1, 1, 30, true);
        alone.guard(3, 0, 1, 0, true);
        alone.offer(3);
        check.steps(alone, 3, 0, 0, 0, 0, 0, 0, 0, 1, 1);
        check.place(alone, 3, Desks.ASLEEP);
    }

    private static void lowerClaimsItselfFirst(Check check) {
        RendezvousDesk desk = Desks.tellerAt(Desks.FIRST);
        check.steps(desk, 1, 0);
        check.process(desk, 1, Desks.HELD, 1, 1, Desks.SECOND, Desks.NONE, Desks.NONE, 0);
        check.process(desk, 2, Desks.OPEN, 1, Desks.NONE, Desks.LOOKING);
        check.steps(desk, 1, 0);
        check.process(desk, 1, Desks.HELD, 1, 1, Desks.TELLING);
        check.process(desk, 2, Desks.HELD, 1, 1, Desks.LOOKING, Desks.NONE, Desks.NONE, 0);
        check.steps(desk, 1, 0);
        check.process(desk, 1, Desks.HELD, 1, 1, Desks.CLOSING, Desks.NONE, Desks.NONE, 0);
        check.process(desk, 2, Desks.PAIRED, 1, Desks.NONE, Desks.LOOKING, 1, 0, 0);
        check.due("count(2)", 1, desk.count(2));
        check.steps(desk, 1, 2, 2);
        check.process(desk, 1, Desks.PAIRED, 1, Desks.NONE, Desks.END, 2, 0, 10);
        check.steps(desk, 2, 2, 2);
        check.place(desk, 2, Desks.END);
        check.due("entries stay until the finish", 2, desk.count(3));
    }

    private static void higherClaimsTheOtherFirst(Check check) {
        RendezvousDesk desk = Desks.higherAtSecond(0);
        check.process(desk, 2, Desks.HELD, 1, 5, Desks.LOOKING);
        check.process(desk, 5, Desks.OPEN, 1, Desks.NONE, Desks.SECOND);
        check.steps(desk, 5, 0);
        check.process(desk, 5, Desks.HELD, 1, 5, Desks.TELLING);
        // 2 finds 5 as well, but is held itself: it looks on and does not sleep.
        check.steps(desk, 2, 0, 0, 0, 0);
        check.place(desk, 2, Desks.LOOKING);
        check.steps(desk, 5, 0, 2);
        check.process(desk, 5, Desks.PAIRED, 1, Desks.NONE, Desks.END, 2, 0, 20);
        check.process(desk, 2, Desks.PAIRED, 1, Desks.NONE, Desks.LOOKING, 5, 0, 0);
        check.steps(desk, 2, 2);
        check.place(desk, 2, Desks.END);
    }

    /** Each claims with its own version, which is not the other's. */
    private static void ownVersionIsItsOwn(Check check) {
        int[] tellers = {1, 2};
        for (int teller : tellers) {
            RendezvousDesk desk = Desks.live(1, 2);
            desk.offer(1);
            desk.cancel(1);
            Desks.receive(desk, 3 - teller, 0);
            desk.step(3 - teller);
            Desks.send(desk, teller, 0, -8);
            check.steps(desk, teller, 0, 0, 0, 0, 0, 2);
            check.process(desk, teller, Desks.PAIRED, teller == 1 ? 2 : 1, Desks.NONE, Desks.END,
                    3 - teller, 0, 0);
            check.process(desk, 3 - teller, Desks.PAIRED, teller == 1 ? 1 : 2, Desks.NONE, Desks.LOOKING,
                    teller, 0, -8);
        }
    }

    private static void pairedWhileAsleep(Check check) {
        RendezvousDesk desk = Desks.live(2, 5);
        Desks.send(desk, 2, 3, 20);
        check.steps(desk, 2, 0, 0, 1);
        Desks.receive(desk, 5, 3);
        Desks.steps(desk, 5, 4);
        check.process(desk, 2, Desks.HELD, 1, 5, Desks.ASLEEP);
        check.steps(desk, 2, 1);
        check.steps(desk, 5, 0);
        check.process(desk, 2, Desks.PAIRED, 1, Desks.NONE, Desks.ASLEEP, 5, 0, 0);
        check.steps(desk, 2, 2);
        check.place(desk, 2, Desks.END);
    }

    /** 7 finds 2 held by 5: it looks on, is not clean, and looks again from the first entry. */
    private static void firstHeldByAnother(Check check) {
        RendezvousDesk desk = Desks.higherAtSecond(0);
        Desks.receive(desk, 7, 3);
        check.steps(desk, 7, 0, 0);
        check.place(desk, 7, Desks.FIRST);
        check.steps(desk, 7, 0);
        check.place(desk, 7, Desks.LOOKING);
        check.process(desk, 2, Desks.HELD, 1, 5);
        check.steps(desk, 7, 0, 0, 0);
        check.place(desk, 7, Desks.LOOKING);
        check.steps(desk, 7, 0);
        check.place(desk, 7, Desks.FIRST);
        Desks.steps(desk, 5, 3);
        // 2 is paired now, so the round that began clean ends asleep.
        check.steps(desk, 7, 0, 0, 0, 1);
        check.place(desk, 7, Desks.ASLEEP);
    }

    private static void firstOfAnOlderOffer(Check check) {
        RendezvousDesk desk = Desks.live(2, 5);
        Desks.send(desk, 2, 3, 20);
        desk.step(2);
        Desks.receive(desk, 5, 3);
        Desks.steps(desk, 5, 2);
        check.place(desk, 5, Desks.FIRST);
        check.due("cancel(2)", true, desk.cancel(2));
        Desks.send(desk, 2, 3, 21);
        check.steps(desk, 5, 0);
        check.place(desk, 5, Desks.LOOKING);
        check.process(desk, 2, Desks.OPEN, 2, Desks.NONE);
        // The cancel left 5 not clean: entry 1 is none, then the first entry again, its own.
        check.steps(desk, 5, 0, 0, 1);
    }

    private static void firstThatIsPairedStaysClean(Check check) {
        RendezvousDesk desk = Desks.live(1, 2, 3);
        Desks.receive(desk, 1, 0);
        desk.step(1);
        Desks.send(desk, 2, 0, 10);
        Desks.send(desk, 3, 0, 20);
        Desks.steps(desk, 2, 5);
        check.due("1 is paired", Desks.PAIRED, desk.process(1, 0));
        // Publishing, entry 0 to FIRST, FIRST, entries 1 and 2, no entry: asleep in one round.
        check.steps(desk, 3, 0, 0, 0, 0, 0, 1);
    }

    /** 7 holds 5 while 5 holds 2: 5 goes back, gives 2 back, and is not clean. */
    private static void secondHeldByAnotherGoesBack(Check check) {
        RendezvousDesk desk = Desks.live(2, 5, 7);
        Desks.send(desk, 2, 3, 20);
        desk.step(2);
        desk.guard(5, 0, 3, 0, true);
        desk.guard(5, 1, 4, 50, true);
        desk.offer(5);
        Desks.steps(desk, 5, 4);
        check.place(desk, 5, Desks.SECOND);
        desk.timeout(7, 1);
        Desks.receive(desk, 7, 4);
        Desks.steps(desk, 7, 3);
        check.process(desk, 5, Desks.HELD, 1, 7, Desks.SECOND);
        check.place(desk, 7, Desks.SECOND);
        check.steps(desk, 5, 0);
        check.process(desk, 5, Desks.HELD, 1, 7, Desks.BACK);
        check.process(desk, 2, Desks.HELD, 1, 5);
        check.steps(desk, 5, 0);
        check.process(desk, 5, Desks.HELD, 1, 7, Desks.LOOKING);
        check.process(desk, 2, Desks.OPEN, 1, Desks.NONE);
        check.due("7 is closed", 1, desk.tick());
        Desks.steps(desk, 7, 2);
        check.process(desk, 5, Desks.OPEN, 1, Desks.NONE, Desks.LOOKING);
        // Its own entry and none for guard 0, its own entry and 7's for guard 1.
        check.steps(desk, 5, 0, 0, 0, 0);
        check.place(desk, 5, Desks.FIRST);
        // 7 is not good, and not held: only what was held before keeps 5 from sleeping.
        check.steps(desk, 5, 0, 0, 0);
        check.place(desk, 5, Desks.LOOKING);
        check.steps(desk, 5, 0);
        check.place(desk, 5, Desks.LOOKING);
        check.steps(desk, 5, 0);
        check.place(desk, 5, Desks.FIRST);
    }

    private static void secondOfAnOlderOffer(Check check) {
        RendezvousDesk desk = Desks.tellerAt(Desks.SECOND);
        check.due("cancel(2)", true, desk.cancel(2));
        Desks.send(desk, 2, 0, 11);
        check.steps(desk, 1, 0);
        check.place(desk, 1, Desks.BACK);
        check.process(desk, 1, Desks.HELD, 1, 1);
        check.process(desk, 2, Desks.OPEN, 2, Desks.NONE);
        check.steps(desk, 1, 0);
        check.process(desk, 1, Desks.OPEN, 1, Desks.NONE, Desks.LOOKING);
    }

    /** The step at BACK gives back first and tells of the end only with the next step. */
    private static void pairedAtBack(Check check) {
        RendezvousDesk desk = Desks.live(2, 5, 7);
        Desks.send(desk, 2, 3, 20);
        desk.step(2);
        desk.guard(5, 0, 3, 0, true);
        desk.guard(5, 1, 4, 50, true);
        desk.offer(5);
        Desks.steps(desk, 5, 4);
        Desks.receive(desk, 7, 4);
        Desks.steps(desk, 7, 6);
        check.process(desk, 5, Desks.PAIRED, 1, Desks.NONE, Desks.SECOND, 7, 1, 0);
        check.throwing("finish(5) at SECOND", Check.UNSUPPORTED, () -> desk.finish(5));
        check.steps(desk, 5, 0);
        check.place(desk, 5, Desks.BACK);
        check.throwing("finish(5) at BACK", Check.UNSUPPORTED, () -> desk.finish(5));
        check.steps(desk, 5, 0);
        check.place(desk, 5, Desks.LOOKING);
        check.process(desk, 2, Desks.OPEN, 1, Desks.NONE);
        check.steps(desk, 5, 2);
        check.place(desk, 5, Desks.END);
    }

    private static void closedAtSecond(Check check) {
        RendezvousDesk desk = Desks.higherAtSecond(1);
        check.due("tick()", 1, desk.tick());
        check.process(desk, 5, Desks.CLOSED, 1, Desks.NONE, Desks.SECOND);
        check.steps(desk, 5, 0, 0);
        check.process(desk, 2, Desks.OPEN, 1, Desks.NONE);
        check.place(desk, 5, Desks.LOOKING);
        check.steps(desk, 5, 3, 3);
        check.place(desk, 5, Desks.END);
    }

    private static void endsWhereItIs(Check check) {
        int[] places = {Desks.PUBLISHING, Desks.LOOKING, Desks.FIRST, Desks.ASLEEP};
        for (int place : places) {
            RendezvousDesk desk = Desks.live(1, 2);
            if (place == Desks.FIRST) {
                Desks.send(desk, 2, 0, 10);
                desk.step(2);
            }
            desk.timeout(1, 1);
            Desks.receive(desk, 1, 0);
            for (int i = 0; i < 9 && desk.process(1, 3) != place; i++) {
                desk.step(1);
            }
            int entries = desk.count(3);
            desk.tick();
            check.place(desk, 1, place);
            check.steps(desk, 1, 3, 3);
            check.process(desk, 1, Desks.CLOSED, 1, Desks.NONE, Desks.END);
            check.due("it does nothing any more", entries, desk.count(3));
        }
    }

    private static void notCleanBehindAFinish(Check check) {
        RendezvousDesk desk = Desks.live(1, 2);
        Desks.receive(desk, 1, 0);
        Desks.steps(desk, 1, 2);
        desk.offer(2);
        check.due("cancel(2)", true, desk.cancel(2));
        check.steps(desk, 1, 0, 0, 1);
        desk.timeout(2, 1);
        desk.offer(2);
        desk.cancel(1);
        Desks.receive(desk, 1, 0);
        Desks.steps(desk, 1, 2);
        desk.tick();
        check.due("finish(2)", Desks.NONE, desk.finish(2));
        check.steps(desk, 1, 0, 0, 1);
    }

    /** 9 is at entry 1 when entry 0 goes: it goes on with entry 1, past the one that moved up. */
    private static void goesOnWithTheNumber(Check check) {
        RendezvousDesk desk = Desks.live(3, 4, 9);
        Desks.receive(desk, 3, 6);
        desk.step(3);
        Desks.send(desk, 4, 6, 44);
        desk.step(4);
        Desks.receive(desk, 9, 6);
        Desks.steps(desk, 9, 2);
        check.due("cancel(3)", true, desk.cancel(3));
        check.steps(desk, 9, 0);
        check.place(desk, 9, Desks.LOOKING);
        check.steps(desk, 9, 0, 0);
        check.place(desk, 9, Desks.FIRST);
    }

    private static void valueIsKeptWhenTheOtherIsGone(Check check) {
        RendezvousDesk desk = Desks.tellerAt(Desks.CLOSING);
        check.due("finish(2)", 1, desk.finish(2));
        Desks.send(desk, 2, 0, 99);
        check.steps(desk, 1, 2);
        check.process(desk, 1, Desks.PAIRED, 1, Desks.NONE, Desks.END, 2, 0, 10);
        check.due("finish(1)", 2, desk.finish(1));
    }
}

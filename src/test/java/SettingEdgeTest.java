/** The edges that promises 6 to 10 name, each in a test of its own: set, load, select, route, source. */
public final class SettingEdgeTest {
    private static final Check check = new Check();
    private static final int OK = BenesFabric.OK;
    private static final int NONE = BenesFabric.NONE;
    private static final int BAD = BenesFabric.BAD;

    public static void main(String[] args) {
        Edges edges = new Edges(check);
        edges.edge("promise 6: BAD if slot is below 0; nothing changes", SettingEdgeTest::setTooSmall);
        edges.edge("promise 6: BAD if slot is above K-1; nothing changes", SettingEdgeTest::setTooLarge);
        edges.edge("promise 6: each input in the draft is mapped to its drafted output", SettingEdgeTest::setKeepsDraftedPairs);
        edges.edge("promise 6: the least input not drafted gets the least output, and so on", SettingEdgeTest::setCompletesInRisingOrder);
        edges.edge("promise 6: the answer is the number of inputs not in the draft, 0 .. N", SettingEdgeTest::setCountsMissingInputs);
        edges.edge("promise 6: with all N inputs drafted the answer is 0", SettingEdgeTest::setOfFullDraft);
        edges.edge("promise 6: with an empty draft the answer is N and i is mapped to i", SettingEdgeTest::setOfEmptyDraft);
        edges.edge("promise 6: the former setting is replaced entirely", SettingEdgeTest::setReplacesEntirely);
        edges.edge("promise 6: the draft stays, without the completing pairs", SettingEdgeTest::setKeepsTheDraft);
        edges.edge("promise 6: waves stay, also those launched by this slot", SettingEdgeTest::setKeepsWaves);
        edges.edge("promise 6: the other slots, the active slot and the latch stay", SettingEdgeTest::setKeepsTheRest);
        edges.edge("promise 6: the next tick launches by the new setting of the active slot", SettingEdgeTest::setGovernsTheNextTick);
        edges.edge("promise 6: a slot set again before the tick launches by the later setting", SettingEdgeTest::setAgainBeforeTheTick);

        edges.edge("promise 7: BAD if slot is below 0; nothing changes", SettingEdgeTest::loadTooSmall);
        edges.edge("promise 7: BAD if slot is above K-1; nothing changes", SettingEdgeTest::loadTooLarge);
        edges.edge("promise 7: the draft is the setting, though it was empty", SettingEdgeTest::loadIntoEmptyDraft);
        edges.edge("promise 7: the draft is the setting, though it held other pairs", SettingEdgeTest::loadIntoPartialDraft);
        edges.edge("promise 7: the draft is the setting, though it was full", SettingEdgeTest::loadIntoFullDraft);
        edges.edge("promise 7: the draft then holds all N inputs", SettingEdgeTest::loadFillsTheDraft);
        edges.edge("promise 7: all slots, this one too, and the other parts stay", SettingEdgeTest::loadKeepsTheRest);

        edges.edge("promise 8: BAD if slot is below 0; nothing changes", SettingEdgeTest::selectTooSmall);
        edges.edge("promise 8: BAD if slot is above K-1; nothing changes", SettingEdgeTest::selectTooLarge);
        edges.edge("promise 8: the first and the last slot can be selected", SettingEdgeTest::selectEverySlot);
        edges.edge("promise 8: OK also if it was the active slot already", SettingEdgeTest::selectActiveSlotAgain);
        edges.edge("promise 8: only the active slot changes", SettingEdgeTest::selectKeepsTheRest);

        edges.edge("promise 9: BAD if slot is below 0", SettingEdgeTest::routeSlotTooSmall);
        edges.edge("promise 9: BAD if slot is above K-1", SettingEdgeTest::routeSlotTooLarge);
        edges.edge("promise 9: BAD if input is below 0", SettingEdgeTest::routeInputTooSmall);
        edges.edge("promise 9: BAD if input is above N-1", SettingEdgeTest::routeInputTooLarge);
        edges.edge("promise 9: the answer is the output, 0 .. N-1", SettingEdgeTest::routeAnswersEveryOutput);
        edges.edge("promise 9: the answer does not depend on the draft", SettingEdgeTest::routeIgnoresTheDraft);
        edges.edge("promise 9: the answer does not depend on the active slot", SettingEdgeTest::routeIgnoresTheActiveSlot);
        edges.edge("promise 9: changes nothing", SettingEdgeTest::routeChangesNothing);

        edges.edge("promise 10: BAD if slot is below 0", SettingEdgeTest::sourceSlotTooSmall);
        edges.edge("promise 10: BAD if slot is above K-1", SettingEdgeTest::sourceSlotTooLarge);
        edges.edge("promise 10: BAD if output is below 0", SettingEdgeTest::sourceOutputTooSmall);
        edges.edge("promise 10: BAD if output is above N-1", SettingEdgeTest::sourceOutputTooLarge);
        edges.edge("promise 10: the answer is the one input, 0 .. N-1", SettingEdgeTest::sourceAnswersEveryInput);
        edges.edge("promise 10: the answer does not depend on the draft", SettingEdgeTest::sourceIgnoresTheDraft);
        edges.edge("promise 10: the answer does not depend on the active slot", SettingEdgeTest::sourceIgnoresTheActiveSlot);
        edges.edge("promise 10: changes nothing", SettingEdgeTest::sourceChangesNothing);
        check.end();
    }

    private static void set(BenesFabric x, int slot, int want) {
        check.due("set(" + slot + ")", x.set(slot), want);
    }

    private static void load(BenesFabric x, int slot, int want) {
        check.due("load(" + slot + ")", x.load(slot), want);
    }

    private static void select(BenesFabric x, int slot, int want) {
        check.due("select(" + slot + ")", x.select(slot), want);
    }

    private static void route(BenesFabric x, int slot, int input, int want) {
        check.due("route(" + slot + ", " + input + ")", x.route(slot, input), want);
    }

    private static void source(BenesFabric x, int slot, int output, int want) {
        check.due("source(" + slot + ", " + output + ")", x.source(slot, output), want);
    }

    private static void setTooSmall(Size z) {
        setsOutside(z, Size.below0());
    }

    private static void setTooLarge(Size z) {
        setsOutside(z, Size.from(z.k()));
    }

    private static void setsOutside(Size z, int[] slots) {
        for (BenesFabric x : new BenesFabric[] {z.busy(), z.full()}) {
            State before = State.of(x);
            for (int slot : slots) {
                set(x, slot, BAD);
                check.same("set(" + slot + ")", before, x);
            }
        }
    }

    private static void setKeepsDraftedPairs(Size z) {
        for (int slot = 0; slot < z.k(); slot++) {
            BenesFabric x = z.busy();
            x.request(z.n() - 1, 0);
            x.set(slot);
            route(x, slot, 0, z.n() - 1);
            route(x, slot, z.n() - 1, 0);
            source(x, slot, 0, z.n() - 1);
            source(x, slot, z.n() - 1, 0);
        }
    }

    private static void setCompletesInRisingOrder(Size z) {
        int last = z.k() - 1;
        // Without input 0 and output N-1 each input falls by one.
        BenesFabric x = z.busy();
        x.set(last);
        for (int i = 1; i < z.n(); i++) {
            route(x, last, i, i - 1);
            source(x, last, i - 1, i);
        }
        // Without input N-1 and output 0 each input rises by one.
        x.clear();
        x.request(z.n() - 1, 0);
        x.set(0);
        for (int i = 0; i < z.n() - 1; i++) {
            route(x, 0, i, i + 1);
            source(x, 0, i + 1, i);
        }
        // The even inputs take the upper half of the outputs; the odd ones are left with the lower half.
        x.clear();
        for (int i = 0; i < z.n(); i += 2) {
            x.request(i, z.n() - 1 - i / 2);
        }
        x.set(last);
        for (int i = 1; i < z.n(); i += 2) {
            route(x, last, i, i / 2);
            source(x, last, i / 2, i);
        }
    }

    private static void setCountsMissingInputs(Size z) {
        BenesFabric x = z.fresh();
        for (int missing = z.n(); missing >= 0; missing--) {
            set(x, z.k() - 1, missing);
            set(x, 0, missing);
            if (missing > 0) {
                x.request(missing - 1, z.n() - missing);
            }
        }
    }

    private static void setOfFullDraft(Size z) {
        for (int slot = 0; slot < z.k(); slot++) {
            BenesFabric x = z.full();
            set(x, slot, 0);
            for (int i = 0; i < z.n(); i++) {
                route(x, slot, i, z.fullOutput(i));
                source(x, slot, z.fullOutput(i), i);
            }
        }
    }

    private static void setOfEmptyDraft(Size z) {
        for (int slot = 0; slot < z.k(); slot++) {
            BenesFabric x = z.full();
            x.clear();
            set(x, slot, z.n());
            for (int i = 0; i < z.n(); i++) {
                route(x, slot, i, i);
                source(x, slot, i, i);
            }
        }
    }

    private static void setReplacesEntirely(Size z) {
        // The full draft leads every input down by one; after it every input is to be led up by one.
        for (int slot = 0; slot < z.k(); slot++) {
            BenesFabric x = z.full();
            x.set(slot);
            x.clear();
            x.request(z.n() - 1, 0);
            x.set(slot);
            for (int i = 0; i < z.n(); i++) {
                route(x, slot, i, (i + 1) % z.n());
                source(x, slot, (i + 1) % z.n(), i);
            }
        }
    }

    private static void setKeepsTheDraft(Size z) {
        BenesFabric x = z.busy();
        State before = z.busyState();
        x.set(z.k() - 1);
        check.due("the draft stays", State.of(x).draft().equals(before.draft()));
        for (int i = 1; i < z.n(); i++) {
            check.due("drafted(" + i + ")", x.drafted(i), NONE);
            check.due("request(" + i + ", " + (z.n() - 1 - i) + ")", x.request(i, z.n() - 1 - i), OK);
        }
        BenesFabric empty = z.fresh();
        empty.set(0);
        check.due("info(DRAFT_COUNT)", empty.info(BenesFabric.DRAFT_COUNT), 0);
    }

    private static void setKeepsWaves(Size z) {
        BenesFabric x = z.busy();
        State before = z.busyState();
        for (int slot = 0; slot < z.k(); slot++) {
            x.set(slot);
            check.due("set(" + slot + ") keeps the waves", State.of(x).waves().equals(before.waves()));
        }
        // The cell just launched by slot 0 arrives where slot 0 then led.
        BenesFabric y = z.fresh();
        y.latch(0, 5);
        y.tick();
        y.request(0, z.n() - 1);
        y.set(0);
        check.due("output(0, S-1)", y.output(0, z.s() - 1), 5);
        check.due("output(N-1, S-1)", y.output(z.n() - 1, z.s() - 1), NONE);
    }

    private static void setKeepsTheRest(Size z) {
        for (int slot = 0; slot < z.k(); slot++) {
            BenesFabric x = z.busy();
            State before = z.busyState();
            x.set(slot);
            State after = State.of(x);
            check.due("set(" + slot + ") changes only the slots", after.sameButSlots(before));
            for (int other = 0; other < z.k(); other++) {
                check.due("set(" + slot + ") keeps slot " + other,
                    other == slot || after.slots().get(other).equals(before.slots().get(other)));
            }
        }
    }

    private static void setGovernsTheNextTick(Size z) {
        for (int active = 0; active < z.k(); active++) {
            BenesFabric x = z.busy();
            x.select(active);
            x.set(active);
            x.clear();
            x.tick();
            // The cell 7 was latched at N-1 before the slot was set to lead N-1 to N-2.
            check.due("output(N-2, S-1)", x.output(z.n() - 2, z.s() - 1), 7);
            check.due("output(N-1, S-1)", x.output(z.n() - 1, z.s() - 1), NONE);
        }
    }

    private static void setAgainBeforeTheTick(Size z) {
        BenesFabric x = z.busy();
        x.set(z.k() - 1);
        x.clear();
        x.request(z.n() - 1, 0);
        x.set(z.k() - 1);
        x.clear();
        x.set(z.k() - 1);
        x.tick();
        check.due("output(N-1, S-1)", x.output(z.n() - 1, z.s() - 1), 7);
        for (int o = 0; o < z.n() - 1; o++) {
            check.due("output(" + o + ", S-1)", x.output(o, z.s() - 1), NONE);
        }
    }

    private static void loadTooSmall(Size z) {
        loadsOutside(z, Size.below0());
    }

    private static void loadTooLarge(Size z) {
        loadsOutside(z, Size.from(z.k()));
    }

    private static void loadsOutside(Size z, int[] slots) {
        for (BenesFabric x : new BenesFabric[] {z.busy(), z.fresh()}) {
            State before = State.of(x);
            for (int slot : slots) {
                load(x, slot, BAD);
                check.same("load(" + slot + ")", before, x);
            }
        }
    }

    private static void loadIntoEmptyDraft(Size z) {
        for (int slot = 0; slot < z.k(); slot++) {
            BenesFabric x = z.busy();
            x.clear();
            loadsTheSetting(x, z, slot);
        }
    }

    private static void loadIntoPartialDraft(Size z) {
        for (int slot = 0; slot < z.k(); slot++) {
            for (int output = 0; output < z.n(); output++) {
                BenesFabric x = z.busy();
                x.clear();
                x.request(z.n() - 1, output);
                loadsTheSetting(x, z, slot);
            }
        }
    }

    private static void loadIntoFullDraft(Size z) {
        for (int slot = 0; slot < z.k(); slot++) {
            loadsTheSetting(z.full(), z, slot);
        }
    }

    /** Each pair is looked at from both sides: its output is busy until the pair is withdrawn. */
    private static void loadsTheSetting(BenesFabric x, Size z, int slot) {
        load(x, slot, OK);
        for (int i = 0; i < z.n(); i++) {
            check.due("drafted(" + i + ")", x.drafted(i), z.busyRoute(slot, i));
        }
        int other = x.withdraw(0);
        check.due("withdraw(0)", other, z.busyRoute(slot, 0));
        for (int o = 0; o < z.n(); o++) {
            if (o != other) {
                check.due("request(0, " + o + ")", x.request(0, o), BenesFabric.OUTPUT_BUSY);
            }
        }
        check.due("request(0, " + other + ")", x.request(0, other), OK);
    }

    private static void loadFillsTheDraft(Size z) {
        BenesFabric x = z.busy();
        x.load(z.k() - 1);
        check.due("info(DRAFT_COUNT)", x.info(BenesFabric.DRAFT_COUNT), z.n());
        check.due("request(0, 0)", x.request(0, 0), BenesFabric.INPUT_BUSY);
        check.due("fill(1, 0)", x.fill(1, 0), 0);
        set(x, 0, 0);
        check.due("clear()", x.clear(), z.n());
    }

    private static void loadKeepsTheRest(Size z) {
        for (int slot = 0; slot < z.k(); slot++) {
            BenesFabric x = z.busy();
            State before = z.busyState();
            x.load(slot);
            check.due("load changes only the draft", State.of(x).sameButDraft(before));
            // The draft is a copy: what is done to it does not reach the slot.
            x.withdraw(0);
            x.clear();
            x.fill(-1, -1);
            check.due("a loaded slot does not follow the draft", State.of(x).sameButDraft(before));
        }
    }

    private static void selectTooSmall(Size z) {
        selectsOutside(z, Size.below0());
    }

    private static void selectTooLarge(Size z) {
        selectsOutside(z, Size.from(z.k()));
    }

    private static void selectsOutside(Size z, int[] slots) {
        BenesFabric x = z.busy();
        State before = z.busyState();
        for (int slot : slots) {
            select(x, slot, BAD);
            check.same("select(" + slot + ")", before, x);
        }
    }

    private static void selectEverySlot(Size z) {
        BenesFabric x = z.busy();
        for (int slot = 0; slot < z.k(); slot++) {
            select(x, slot, OK);
            check.due("info(ACTIVE)", x.info(BenesFabric.ACTIVE), slot);
            x.latch(0, 50 + slot);
            x.tick();
            int output = z.busyRoute(slot, 0);
            check.due("output(" + output + ", S-1)", x.output(output, z.s() - 1), 50 + slot);
        }
        select(x, 0, OK);
        check.due("info(ACTIVE)", x.info(BenesFabric.ACTIVE), 0);
    }

    private static void selectActiveSlotAgain(Size z) {
        BenesFabric x = z.busy();
        State before = z.busyState();
        select(x, z.k() - 1, OK);
        select(x, z.k() - 1, OK);
        check.same("select of the active slot", before, x);
        select(z.fresh(), 0, OK);
    }

    private static void selectKeepsTheRest(Size z) {
        BenesFabric x = z.busy();
        State before = z.busyState();
        for (int slot = 0; slot < z.k(); slot++) {
            x.select(slot);
            check.due("select(" + slot + ") changes only the active slot", State.of(x).sameButActive(before));
        }
    }

    private static void routeSlotTooSmall(Size z) {
        routeSlotsOutside(z, Size.below0());
    }

    private static void routeSlotTooLarge(Size z) {
        routeSlotsOutside(z, Size.from(z.k()));
    }

    private static void routeSlotsOutside(Size z, int[] slots) {
        BenesFabric x = z.busy();
        for (int slot : slots) {
            for (int input : new int[] {-1, 0, z.n() - 1, z.n()}) {
                route(x, slot, input, BAD);
            }
        }
    }

    private static void routeInputTooSmall(Size z) {
        routeInputsOutside(z, Size.below0());
    }

    private static void routeInputTooLarge(Size z) {
        routeInputsOutside(z, Size.from(z.n()));
    }

    private static void routeInputsOutside(Size z, int[] inputs) {
        BenesFabric x = z.busy();
        for (int input : inputs) {
            for (int slot = 0; slot < z.k(); slot++) {
                route(x, slot, input, BAD);
            }
        }
    }

    private static void routeAnswersEveryOutput(Size z) {
        BenesFabric x = z.busy();
        for (int slot = 0; slot < z.k(); slot++) {
            for (int i = 0; i < z.n(); i++) {
                route(x, slot, i, z.busyRoute(slot, i));
            }
        }
    }

    private static void routeIgnoresTheDraft(Size z) {
        BenesFabric x = z.fresh();
        x.fill(-1, -1);
        route(x, 0, 0, 0);
        route(x, z.k() - 1, z.n() - 1, z.n() - 1);
        x.set(0);
        x.clear();
        route(x, 0, 0, z.n() - 1);
        route(x, 0, z.n() - 1, 0);
    }

    private static void routeIgnoresTheActiveSlot(Size z) {
        BenesFabric x = z.busy();
        for (int active = 0; active < z.k(); active++) {
            x.select(active);
            for (int slot = 0; slot < z.k(); slot++) {
                route(x, slot, 0, z.busyRoute(slot, 0));
            }
        }
    }

    private static void routeChangesNothing(Size z) {
        BenesFabric x = z.busy();
        State before = z.busyState();
        for (int slot = -1; slot <= z.k(); slot++) {
            for (int input = -1; input <= z.n(); input++) {
                x.route(slot, input);
            }
        }
        check.same("route", before, x);
    }

    private static void sourceSlotTooSmall(Size z) {
        sourceSlotsOutside(z, Size.below0());
    }

    private static void sourceSlotTooLarge(Size z) {
        sourceSlotsOutside(z, Size.from(z.k()));
    }

    private static void sourceSlotsOutside(Size z, int[] slots) {
        BenesFabric x = z.busy();
        for (int slot : slots) {
            for (int output : new int[] {-1, 0, z.n() - 1, z.n()}) {
                source(x, slot, output, BAD);
            }
        }
    }

    private static void sourceOutputTooSmall(Size z) {
        sourceOutputsOutside(z, Size.below0());
    }

    private static void sourceOutputTooLarge(Size z) {
        sourceOutputsOutside(z, Size.from(z.n()));
    }

    private static void sourceOutputsOutside(Size z, int[] outputs) {
        BenesFabric x = z.busy();
        for (int output : outputs) {
            for (int slot = 0; slot < z.k(); slot++) {
                source(x, slot, output, BAD);
            }
        }
    }

    private static void sourceAnswersEveryInput(Size z) {
        BenesFabric x = z.busy();
        for (int slot = 0; slot < z.k(); slot++) {
            for (int i = 0; i < z.n(); i++) {
                source(x, slot, z.busyRoute(slot, i), i);
            }
        }
    }

    private static void sourceIgnoresTheDraft(Size z) {
        BenesFabric x = z.fresh();
        x.fill(-1, -1);
        source(x, 0, 0, 0);
        source(x, z.k() - 1, z.n() - 1, z.n() - 1);
        x.set(0);
        x.clear();
        source(x, 0, 0, z.n() - 1);
        source(x, 0, z.n() - 1, 0);
    }

    private static void sourceIgnoresTheActiveSlot(Size z) {
        BenesFabric x = z.busy();
        for (int active = 0; active < z.k(); active++) {
            x.select(active);
            for (int slot = 0; slot < z.k(); slot++) {
                source(x, slot, z.busyRoute(slot, 0), 0);
            }
        }
    }

    private static void sourceChangesNothing(Size z) {
        BenesFabric x = z.busy();
        State before = z.busyState();
        for (int slot = -1; slot <= z.k(); slot++) {
            for (int output = -1; output <= z.n(); output++) {
                x.source(slot, output);
            }
        }
        check.same("source", before, x);
    }
}

/** All promises: long runs of calls, each answer compared with the model's; no object is used beyond 512 calls. */
public final class ModelTest {
    private static final Due due = new Due();
    private static final int CALLS = 512;

    public static void main(String[] args) {
        Numbers numbers = new Numbers(20261115);
        for (int run = 0; run < 60; run++) mixedRun(run, numbers);
        due.end();
    }

    private static void mixedRun(int run, Numbers numbers) {
        int waits = run < 8 ? run - 2 : numbers.below(4);
        ChaseTable x = new ChaseTable(waits);
        Model model = new Model(waits);
        int calls = 0;
        int doors = 4 + numbers.below(22);
        for (; calls < doors; calls++) {
            int from = numbers.below(6);
            int to = numbers.below(6);
            due.is("run " + run + ": door", x.door(from, to, true), model.door(from, to, true));
        }
        for (; calls < CALLS; calls++) {
            if (numbers.oneIn(30)) changeMap(run, x, model, numbers);
            else if (numbers.oneIn(2)) useBoard(run, x, model, numbers);
            else ask(run, x, model, numbers);
        }
    }

    private static void changeMap(int run, ChaseTable x, Model model, Numbers numbers) {
        boolean on = numbers.oneIn(2);
        int place = numbers.perhapsPlace();
        if (numbers.oneIn(3)) {
            String call = "run " + run + ": exit(" + place + ", " + on + ")";
            due.is(call, x.exit(place, on), model.exit(place, on));
        } else {
            int to = numbers.perhapsPlace();
            String call = "run " + run + ": door(" + place + ", " + to + ", " + on + ")";
            due.is(call, x.door(place, to, on), model.door(place, to, on));
        }
    }

    private static void useBoard(int run, ChaseTable x, Model model, Numbers numbers) {
        String name = "run " + run + ": ";
        switch (numbers.below(5)) {
            case 0: {
                int a = numbers.perhapsPlace();
                int b = numbers.perhapsPlace();
                int t = numbers.perhapsPlace();
                boolean thief = numbers.oneIn(2);
                String call = name + "set(" + a + ", " + b + ", " + t + ", " + thief + ")";
                due.is(call, x.set(a, b, t, thief), model.set(a, b, t, thief));
                break;
            }
            case 1: {
                int code = numbers.below(15) - 1;
                due.is(name + "play(" + code + ")", x.play(code), model.play(code));
                break;
            }
            case 2: {
                due.is(name + "board()", x.board(), model.board());
                break;
            }
            default: {
                due.is(name + "best() at " + model.board(), x.best(), model.best());
                break;
            }
        }
    }

    private static void ask(int run, ChaseTable x, Model model, Numbers numbers) {
        String name = "run " + run + ": ";
        int a = numbers.perhapsPlace();
        int b = numbers.perhapsPlace();
        int t = numbers.perhapsPlace();
        boolean thief = numbers.oneIn(2);
        String position = "(" + a + ", " + b + ", " + t + ", " + thief + ")";
        int who = numbers.below(5) - 1;
        switch (numbers.below(4)) {
            case 0:
                due.is(name + "outcome" + position, x.outcome(a, b, t, thief), model.outcome(a, b, t, thief));
                break;
            case 1:
                due.is(name + "length" + position, x.length(a, b, t, thief), model.length(a, b, t, thief));
                break;
            case 2:
                due.is(name + "total(" + who + ")", x.total(who), model.total(who));
                break;
            default:
                due.is(name + "longest(" + who + ")", x.longest(who), model.longest(who));
                break;
        }
    }
}

/** A call on an object. */
interface Act {
    long on(LipsThatFit x);
}
